/-! The law's cases (by program). -/
theorem wL_5 : ((Jvm.Cond.methodLink "QueuewardLaw" (132 : Nat) ({ cls := "QueuewardLaw", name := "result", desc := "(LQueueward;Z[J)I" } : Jvm.MethodName)) : Cond) ∈ LW := LW_mem (lw_in4 _ (List.mem_of_getElem? (i := 89) (by decide +kernel))) rfl
theorem wL_6 : ((Jvm.Cond.static ({ cls := "QueuewardLaw", name := "result", desc := "(LQueueward;Z[J)I" } : Jvm.MethodName)) : Cond) ∈ LW := LW_mem (lw_in4 _ (List.mem_of_getElem? (i := 90) (by decide +kernel))) rfl
theorem wL_7 : ((Jvm.Cond.initialized "QueuewardLaw") : Cond) ∈ LW := LW_mem (lw_in1 _ (List.mem_of_getElem? (i := 0) (by decide +kernel))) rfl
theorem wL_8 : ((Jvm.Cond.codeWith ({ cls := "QueuewardLaw", name := "result", desc := "(LQueueward;Z[J)I" } : Jvm.MethodName) method_3_code (4 : Nat) (Option.some Jvm.ClassFile.FieldType.int) [((0 : Nat), (8 : Nat), (11 : Nat), (13 : Nat))]) : Cond) ∈ LW := LW_mem (lw_in4 _ (List.mem_of_getElem? (i := 91) (by decide +kernel))) rfl
theorem wL_9 : ((Jvm.Cond.methodLink "QueuewardLaw" (137 : Nat) ({ cls := "QueuewardModel", name := "result", desc := "(Z)J" } : Jvm.MethodName)) : Cond) ∈ LW := LW_mem (lw_in8 _ (List.mem_of_getElem? (i := 14) (by decide +kernel))) rfl
theorem wL_10 : ((Jvm.Cond.instanceMethod ({ cls := "QueuewardModel", name := "result", desc := "(Z)J" } : Jvm.MethodName)) : Cond) ∈ LW := LW_mem (lw_in8 _ (List.mem_of_getElem? (i := 15) (by decide +kernel))) rfl
theorem wL_11 : ((Jvm.Cond.selects "QueuewardModel" ({ cls := "QueuewardModel", name := "result", desc := "(Z)J" } : Jvm.MethodName) ({ cls := "QueuewardModel", name := "result", desc := "(Z)J" } : Jvm.MethodName)) : Cond) ∈ LW := LW_mem (lw_in8 _ (List.mem_of_getElem? (i := 16) (by decide +kernel))) rfl
theorem wL_12 : ((Jvm.Cond.code ({ cls := "QueuewardModel", name := "result", desc := "(Z)J" } : Jvm.MethodName) prog_14_method_26_code (7 : Nat) (Option.some Jvm.ClassFile.FieldType.long)) : Cond) ∈ LW := LW_mem (lw_in8 _ (List.mem_of_getElem? (i := 17) (by decide +kernel))) rfl
theorem wL_13 : ((Jvm.Cond.methodLink "QueuewardLaw" (141 : Nat) ({ cls := "QueuewardLaw", name := "write", desc := "(LQueueward;[J)I" } : Jvm.MethodName)) : Cond) ∈ LW := LW_mem (lw_in4 _ (List.mem_of_getElem? (i := 182) (by decide +kernel))) rfl
theorem wL_14 : ((Jvm.Cond.static ({ cls := "QueuewardLaw", name := "write", desc := "(LQueueward;[J)I" } : Jvm.MethodName)) : Cond) ∈ LW := LW_mem (lw_in4 _ (List.mem_of_getElem? (i := 183) (by decide +kernel))) rfl
theorem wL_15 : ((Jvm.Cond.codeWith ({ cls := "QueuewardLaw", name := "write", desc := "(LQueueward;[J)I" } : Jvm.MethodName) method_4_code (3 : Nat) (Option.some Jvm.ClassFile.FieldType.int) [((0 : Nat), (8 : Nat), (11 : Nat), (19 : Nat))]) : Cond) ∈ LW := LW_mem (lw_in4 _ (List.mem_of_getElem? (i := 184) (by decide +kernel))) rfl
theorem wL_16 : ((Jvm.Cond.methodLink "QueuewardLaw" (144 : Nat) ({ cls := "QueuewardModel", name := "write", desc := "()I" } : Jvm.MethodName)) : Cond) ∈ LW := LW_mem (lw_in8 _ (List.mem_of_getElem? (i := 31) (by decide +kernel))) rfl
theorem wL_17 : ((Jvm.Cond.instanceMethod ({ cls := "QueuewardModel", name := "write", desc := "()I" } : Jvm.MethodName)) : Cond) ∈ LW := LW_mem (lw_in8 _ (List.mem_of_getElem? (i := 32) (by decide +kernel))) rfl
theorem wL_18 : ((Jvm.Cond.selects "QueuewardModel" ({ cls := "QueuewardModel", name := "write", desc := "()I" } : Jvm.MethodName) ({ cls := "QueuewardModel", name := "write", desc := "()I" } : Jvm.MethodName)) : Cond) ∈ LW := LW_mem (lw_in8 _ (List.mem_of_getElem? (i := 33) (by decide +kernel))) rfl
theorem wL_19 : ((Jvm.Cond.code ({ cls := "QueuewardModel", name := "write", desc := "()I" } : Jvm.MethodName) prog_14_method_30_code (2 : Nat) (Option.some Jvm.ClassFile.FieldType.int)) : Cond) ∈ LW := LW_mem (lw_in8 _ (List.mem_of_getElem? (i := 34) (by decide +kernel))) rfl
theorem wL_20 : ((Jvm.Cond.constantLong "QueuewardLaw" (145 : Nat) (4294967295 : Int64)) : Cond) ∈ LW := LW_mem (lw_in10 _ (List.mem_of_getElem? (i := 24) (by decide +kernel))) rfl
theorem wL_21 : ((Jvm.Cond.methodLink "QueuewardLaw" (147 : Nat) ({ cls := "QueuewardLaw", name := "type", desc := "(LQueueward;J[J)I" } : Jvm.MethodName)) : Cond) ∈ LW := LW_mem (lw_in4 _ (List.mem_of_getElem? (i := 226) (by decide +kernel))) rfl
theorem wL_22 : ((Jvm.Cond.static ({ cls := "QueuewardLaw", name := "type", desc := "(LQueueward;J[J)I" } : Jvm.MethodName)) : Cond) ∈ LW := LW_mem (lw_in4 _ (List.mem_of_getElem? (i := 227) (by decide +kernel))) rfl
theorem wL_23 : ((Jvm.Cond.codeWith ({ cls := "QueuewardLaw", name := "type", desc := "(LQueueward;J[J)I" } : Jvm.MethodName) method_5_code (5 : Nat) (Option.some Jvm.ClassFile.FieldType.int) [((0 : Nat), (9 : Nat), (12 : Nat), (25 : Nat)), ((0 : Nat), (9 : Nat), (16 : Nat), (19 : Nat))]) : Cond) ∈ LW := LW_mem (lw_in4 _ (List.mem_of_getElem? (i := 228) (by decide +kernel))) rfl
theorem wL_24 : ((Jvm.Cond.methodLink "QueuewardLaw" (150 : Nat) ({ cls := "QueuewardModel", name := "type", desc := "(J)I" } : Jvm.MethodName)) : Cond) ∈ LW := LW_mem (lw_in8 _ (List.mem_of_getElem? (i := 51) (by decide +kernel))) rfl
theorem wL_25 : ((Jvm.Cond.instanceMethod ({ cls := "QueuewardModel", name := "type", desc := "(J)I" } : Jvm.MethodName)) : Cond) ∈ LW := LW_mem (lw_in8 _ (List.mem_of_getElem? (i := 52) (by decide +kernel))) rfl
theorem wL_26 : ((Jvm.Cond.selects "QueuewardModel" ({ cls := "QueuewardModel", name := "type", desc := "(J)I" } : Jvm.MethodName) ({ cls := "QueuewardModel", name := "type", desc := "(J)I" } : Jvm.MethodName)) : Cond) ∈ LW := LW_mem (lw_in8 _ (List.mem_of_getElem? (i := 53) (by decide +kernel))) rfl
theorem wL_27 : ((Jvm.Cond.code ({ cls := "QueuewardModel", name := "type", desc := "(J)I" } : Jvm.MethodName) prog_14_method_31_code (7 : Nat) (Option.some Jvm.ClassFile.FieldType.int)) : Cond) ∈ LW := LW_mem (lw_in8 _ (List.mem_of_getElem? (i := 54) (by decide +kernel))) rfl
theorem wL_28 : ((Jvm.Cond.methodLink "QueuewardLaw" (151 : Nat) ({ cls := "Queueward", name := "wipe", desc := "()I" } : Jvm.MethodName)) : Cond) ∈ LW := LW_mem (lw_in2 _ (List.mem_of_getElem? (i := 203) (by decide +kernel))) rfl
theorem wL_29 : ((Jvm.Cond.instanceMethod ({ cls := "Queueward", name := "wipe", desc := "()I" } : Jvm.MethodName)) : Cond) ∈ LW := LW_mem (lw_in2 _ (List.mem_of_getElem? (i := 204) (by decide +kernel))) rfl
theorem wL_30 : ((Jvm.Cond.selects "Queueward" ({ cls := "Queueward", name := "wipe", desc := "()I" } : Jvm.MethodName) ({ cls := "Queueward", name := "wipe", desc := "()I" } : Jvm.MethodName)) : Cond) ∈ LW := LW_mem (lw_in2 _ (List.mem_of_getElem? (i := 205) (by decide +kernel))) rfl
theorem wL_31 : ((Jvm.Cond.initialized "Queueward") : Cond) ∈ LW := LW_mem (lw_in1 _ (List.mem_of_getElem? (i := 1) (by decide +kernel))) rfl
theorem wL_32 : ((Jvm.Cond.code ({ cls := "Queueward", name := "wipe", desc := "()I" } : Jvm.MethodName) prog_1_method_5_code (2 : Nat) (Option.some Jvm.ClassFile.FieldType.int)) : Cond) ∈ LW := LW_mem (lw_in2 _ (List.mem_of_getElem? (i := 206) (by decide +kernel))) rfl
theorem wL_33 : ((Jvm.Cond.methodLink "QueuewardLaw" (154 : Nat) ({ cls := "QueuewardModel", name := "wipe", desc := "()I" } : Jvm.MethodName)) : Cond) ∈ LW := LW_mem (lw_in8 _ (List.mem_of_getElem? (i := 59) (by decide +kernel))) rfl
theorem wL_34 : ((Jvm.Cond.instanceMethod ({ cls := "QueuewardModel", name := "wipe", desc := "()I" } : Jvm.MethodName)) : Cond) ∈ LW := LW_mem (lw_in8 _ (List.mem_of_getElem? (i := 60) (by decide +kernel))) rfl
theorem wL_35 : ((Jvm.Cond.selects "QueuewardModel" ({ cls := "QueuewardModel", name := "wipe", desc := "()I" } : Jvm.MethodName) ({ cls := "QueuewardModel", name := "wipe", desc := "()I" } : Jvm.MethodName)) : Cond) ∈ LW := LW_mem (lw_in8 _ (List.mem_of_getElem? (i := 61) (by decide +kernel))) rfl
theorem wL_36 : ((Jvm.Cond.code ({ cls := "QueuewardModel", name := "wipe", desc := "()I" } : Jvm.MethodName) prog_14_method_32_code (2 : Nat) (Option.some Jvm.ClassFile.FieldType.int)) : Cond) ∈ LW := LW_mem (lw_in8 _ (List.mem_of_getElem? (i := 62) (by decide +kernel))) rfl
theorem wL_37 : ((Jvm.Cond.methodLink "QueuewardLaw" (155 : Nat) ({ cls := "QueuewardLaw", name := "signAt", desc := "(LQueueward;I[J)I" } : Jvm.MethodName)) : Cond) ∈ LW := LW_mem (lw_in5 _ (List.mem_of_getElem? (i := 10) (by decide +kernel))) rfl
theorem wL_38 : ((Jvm.Cond.static ({ cls := "QueuewardLaw", name := "signAt", desc := "(LQueueward;I[J)I" } : Jvm.MethodName)) : Cond) ∈ LW := LW_mem (lw_in5 _ (List.mem_of_getElem? (i := 11) (by decide +kernel))) rfl
theorem wL_39 : ((Jvm.Cond.codeWith ({ cls := "QueuewardLaw", name := "signAt", desc := "(LQueueward;I[J)I" } : Jvm.MethodName) method_6_code (4 : Nat) (Option.some Jvm.ClassFile.FieldType.int) [((0 : Nat), (9 : Nat), (12 : Nat), (31 : Nat))]) : Cond) ∈ LW := LW_mem (lw_in5 _ (List.mem_of_getElem? (i := 12) (by decide +kernel))) rfl
theorem wL_40 : ((Jvm.Cond.methodLink "QueuewardLaw" (158 : Nat) ({ cls := "QueuewardModel", name := "signAt", desc := "(I)I" } : Jvm.MethodName)) : Cond) ∈ LW := LW_mem (lw_in8 _ (List.mem_of_getElem? (i := 63) (by decide +kernel))) rfl
theorem wL_41 : ((Jvm.Cond.instanceMethod ({ cls := "QueuewardModel", name := "signAt", desc := "(I)I" } : Jvm.MethodName)) : Cond) ∈ LW := LW_mem (lw_in8 _ (List.mem_of_getElem? (i := 64) (by decide +kernel))) rfl
theorem wL_42 : ((Jvm.Cond.selects "QueuewardModel" ({ cls := "QueuewardModel", name := "signAt", desc := "(I)I" } : Jvm.MethodName) ({ cls := "QueuewardModel", name := "signAt", desc := "(I)I" } : Jvm.MethodName)) : Cond) ∈ LW := LW_mem (lw_in8 _ (List.mem_of_getElem? (i := 65) (by decide +kernel))) rfl
theorem wL_43 : ((Jvm.Cond.code ({ cls := "QueuewardModel", name := "signAt", desc := "(I)I" } : Jvm.MethodName) prog_14_method_33_code (2 : Nat) (Option.some Jvm.ClassFile.FieldType.int)) : Cond) ∈ LW := LW_mem (lw_in8 _ (List.mem_of_getElem? (i := 66) (by decide +kernel))) rfl
theorem wL_44 : ((Jvm.Cond.methodLink "QueuewardLaw" (159 : Nat) ({ cls := "Queueward", name := "fault", desc := "()I" } : Jvm.MethodName)) : Cond) ∈ LW := LW_mem (lw_in2 _ (List.mem_of_getElem? (i := 207) (by decide +kernel))) rfl
theorem wL_45 : ((Jvm.Cond.instanceMethod ({ cls := "Queueward", name := "fault", desc := "()I" } : Jvm.MethodName)) : Cond) ∈ LW := LW_mem (lw_in2 _ (List.mem_of_getElem? (i := 208) (by decide +kernel))) rfl
theorem wL_46 : ((Jvm.Cond.selects "Queueward" ({ cls := "Queueward", name := "fault", desc := "()I" } : Jvm.MethodName) ({ cls := "Queueward", name := "fault", desc := "()I" } : Jvm.MethodName)) : Cond) ∈ LW := LW_mem (lw_in2 _ (List.mem_of_getElem? (i := 209) (by decide +kernel))) rfl
theorem wL_47 : ((Jvm.Cond.code ({ cls := "Queueward", name := "fault", desc := "()I" } : Jvm.MethodName) prog_1_method_7_code (1 : Nat) (Option.some Jvm.ClassFile.FieldType.int)) : Cond) ∈ LW := LW_mem (lw_in2 _ (List.mem_of_getElem? (i := 210) (by decide +kernel))) rfl
theorem wL_48 : ((Jvm.Cond.methodLink "QueuewardLaw" (162 : Nat) ({ cls := "QueuewardModel", name := "fault", desc := "()I" } : Jvm.MethodName)) : Cond) ∈ LW := LW_mem (lw_in8 _ (List.mem_of_getElem? (i := 67) (by decide +kernel))) rfl
theorem wL_49 : ((Jvm.Cond.instanceMethod ({ cls := "QueuewardModel", name := "fault", desc := "()I" } : Jvm.MethodName)) : Cond) ∈ LW := LW_mem (lw_in8 _ (List.mem_of_getElem? (i := 68) (by decide +kernel))) rfl
theorem wL_50 : ((Jvm.Cond.selects "QueuewardModel" ({ cls := "QueuewardModel", name := "fault", desc := "()I" } : Jvm.MethodName) ({ cls := "QueuewardModel", name := "fault", desc := "()I" } : Jvm.MethodName)) : Cond) ∈ LW := LW_mem (lw_in8 _ (List.mem_of_getElem? (i := 69) (by decide +kernel))) rfl
theorem wL_51 : ((Jvm.Cond.code ({ cls := "QueuewardModel", name := "fault", desc := "()I" } : Jvm.MethodName) prog_14_method_42_code (1 : Nat) (Option.some Jvm.ClassFile.FieldType.int)) : Cond) ∈ LW := LW_mem (lw_in8 _ (List.mem_of_getElem? (i := 70) (by decide +kernel))) rfl
theorem wL_52 : ((Jvm.Cond.methodLink "QueuewardLaw" (163 : Nat) ({ cls := "QueuewardLaw", name := "read", desc := "(LQueueward;[J)I" } : Jvm.MethodName)) : Cond) ∈ LW := LW_mem (lw_in5 _ (List.mem_of_getElem? (i := 49) (by decide +kernel))) rfl
theorem wL_53 : ((Jvm.Cond.static ({ cls := "QueuewardLaw", name := "read", desc := "(LQueueward;[J)I" } : Jvm.MethodName)) : Cond) ∈ LW := LW_mem (lw_in5 _ (List.mem_of_getElem? (i := 50) (by decide +kernel))) rfl
theorem wL_54 : ((Jvm.Cond.codeWith ({ cls := "QueuewardLaw", name := "read", desc := "(LQueueward;[J)I" } : Jvm.MethodName) method_7_code (3 : Nat) (Option.some Jvm.ClassFile.FieldType.int) [((0 : Nat), (8 : Nat), (11 : Nat), (25 : Nat)), ((0 : Nat), (8 : Nat), (14 : Nat), (19 : Nat))]) : Cond) ∈ LW := LW_mem (lw_in5 _ (List.mem_of_getElem? (i := 51) (by decide +kernel))) rfl
theorem wL_55 : ((Jvm.Cond.methodLink "QueuewardLaw" (165 : Nat) ({ cls := "QueuewardModel", name := "read", desc := "()I" } : Jvm.MethodName)) : Cond) ∈ LW := LW_mem (lw_in8 _ (List.mem_of_getElem? (i := 111) (by decide +kernel))) rfl
theorem wL_56 : ((Jvm.Cond.instanceMethod ({ cls := "QueuewardModel", name := "read", desc := "()I" } : Jvm.MethodName)) : Cond) ∈ LW := LW_mem (lw_in8 _ (List.mem_of_getElem? (i := 112) (by decide +kernel))) rfl
theorem wL_57 : ((Jvm.Cond.selects "QueuewardModel" ({ cls := "QueuewardModel", name := "read", desc := "()I" } : Jvm.MethodName) ({ cls := "QueuewardModel", name := "read", desc := "()I" } : Jvm.MethodName)) : Cond) ∈ LW := LW_mem (lw_in8 _ (List.mem_of_getElem? (i := 113) (by decide +kernel))) rfl
theorem wL_58 : ((Jvm.Cond.code ({ cls := "QueuewardModel", name := "read", desc := "()I" } : Jvm.MethodName) prog_14_method_46_code (5 : Nat) (Option.some Jvm.ClassFile.FieldType.int)) : Cond) ∈ LW := LW_mem (lw_in8 _ (List.mem_of_getElem? (i := 114) (by decide +kernel))) rfl
theorem wL_59 : ((Jvm.Cond.methodLink "QueuewardLaw" (166 : Nat) ({ cls := "QueuewardLaw", name := "come", desc := "(LQueueward;IIII[J)I" } : Jvm.MethodName)) : Cond) ∈ LW := LW_mem (lw_in5 _ (List.mem_of_getElem? (i := 80) (by decide +kernel))) rfl
theorem wL_60 : ((Jvm.Cond.static ({ cls := "QueuewardLaw", name := "come", desc := "(LQueueward;IIII[J)I" } : Jvm.MethodName)) : Cond) ∈ LW := LW_mem (lw_in5 _ (List.mem_of_getElem? (i := 81) (by decide +kernel))) rfl
theorem wL_61 : ((Jvm.Cond.codeWith ({ cls := "QueuewardLaw", name := "come", desc := "(LQueueward;IIII[J)I" } : Jvm.MethodName) method_8_code (7 : Nat) (Option.some Jvm.ClassFile.FieldType.int) [((0 : Nat), (14 : Nat), (17 : Nat), (25 : Nat)), ((0 : Nat), (14 : Nat), (21 : Nat), (19 : Nat))]) : Cond) ∈ LW := LW_mem (lw_in5 _ (List.mem_of_getElem? (i := 82) (by decide +kernel))) rfl
theorem wL_62 : ((Jvm.Cond.methodLink "QueuewardLaw" (169 : Nat) ({ cls := "QueuewardModel", name := "come", desc := "(IIII)I" } : Jvm.MethodName)) : Cond) ∈ LW := LW_mem (lw_in8 _ (List.mem_of_getElem? (i := 126) (by decide +kernel))) rfl
theorem wL_63 : ((Jvm.Cond.instanceMethod ({ cls := "QueuewardModel", name := "come", desc := "(IIII)I" } : Jvm.MethodName)) : Cond) ∈ LW := LW_mem (lw_in8 _ (List.mem_of_getElem? (i := 127) (by decide +kernel))) rfl
theorem wL_64 : ((Jvm.Cond.selects "QueuewardModel" ({ cls := "QueuewardModel", name := "come", desc := "(IIII)I" } : Jvm.MethodName) ({ cls := "QueuewardModel", name := "come", desc := "(IIII)I" } : Jvm.MethodName)) : Cond) ∈ LW := LW_mem (lw_in8 _ (List.mem_of_getElem? (i := 128) (by decide +kernel))) rfl
theorem wL_65 : ((Jvm.Cond.code ({ cls := "QueuewardModel", name := "come", desc := "(IIII)I" } : Jvm.MethodName) prog_14_method_47_code (5 : Nat) (Option.some Jvm.ClassFile.FieldType.int)) : Cond) ∈ LW := LW_mem (lw_in8 _ (List.mem_of_getElem? (i := 129) (by decide +kernel))) rfl
theorem wL_66 : ((Jvm.Cond.methodLink "QueuewardLaw" (170 : Nat) ({ cls := "Queueward", name := "clear", desc := "()I" } : Jvm.MethodName)) : Cond) ∈ LW := LW_mem (lw_in3 _ (List.mem_of_getElem? (i := 68) (by decide +kernel))) rfl
theorem wL_67 : ((Jvm.Cond.instanceMethod ({ cls := "Queueward", name := "clear", desc := "()I" } : Jvm.MethodName)) : Cond) ∈ LW := LW_mem (lw_in3 _ (List.mem_of_getElem? (i := 69) (by decide +kernel))) rfl
theorem wL_68 : ((Jvm.Cond.selects "Queueward" ({ cls := "Queueward", name := "clear", desc := "()I" } : Jvm.MethodName) ({ cls := "Queueward", name := "clear", desc := "()I" } : Jvm.MethodName)) : Cond) ∈ LW := LW_mem (lw_in3 _ (List.mem_of_getElem? (i := 70) (by decide +kernel))) rfl
theorem wL_69 : ((Jvm.Cond.code ({ cls := "Queueward", name := "clear", desc := "()I" } : Jvm.MethodName) prog_1_method_10_code (2 : Nat) (Option.some Jvm.ClassFile.FieldType.int)) : Cond) ∈ LW := LW_mem (lw_in3 _ (List.mem_of_getElem? (i := 71) (by decide +kernel))) rfl
theorem wL_70 : ((Jvm.Cond.methodLink "QueuewardLaw" (173 : Nat) ({ cls := "QueuewardModel", name := "clear", desc := "()I" } : Jvm.MethodName)) : Cond) ∈ LW := LW_mem (lw_in8 _ (List.mem_of_getElem? (i := 130) (by decide +kernel))) rfl
theorem wL_71 : ((Jvm.Cond.instanceMethod ({ cls := "QueuewardModel", name := "clear", desc := "()I" } : Jvm.MethodName)) : Cond) ∈ LW := LW_mem (lw_in8 _ (List.mem_of_getElem? (i := 131) (by decide +kernel))) rfl
theorem wL_72 : ((Jvm.Cond.selects "QueuewardModel" ({ cls := "QueuewardModel", name := "clear", desc := "()I" } : Jvm.MethodName) ({ cls := "QueuewardModel", name := "clear", desc := "()I" } : Jvm.MethodName)) : Cond) ∈ LW := LW_mem (lw_in8 _ (List.mem_of_getElem? (i := 132) (by decide +kernel))) rfl
theorem wL_73 : ((Jvm.Cond.code ({ cls := "QueuewardModel", name := "clear", desc := "()I" } : Jvm.MethodName) prog_14_method_48_code (2 : Nat) (Option.some Jvm.ClassFile.FieldType.int)) : Cond) ∈ LW := LW_mem (lw_in8 _ (List.mem_of_getElem? (i := 133) (by decide +kernel))) rfl
theorem wL_74 : ((Jvm.Cond.methodLink "QueuewardLaw" (174 : Nat) ({ cls := "QueuewardLaw", name := "undo", desc := "(LQueueward;[J)I" } : Jvm.MethodName)) : Cond) ∈ LW := LW_mem (lw_in5 _ (List.mem_of_getElem? (i := 90) (by decide +kernel))) rfl
theorem wL_75 : ((Jvm.Cond.static ({ cls := "QueuewardLaw", name := "undo", desc := "(LQueueward;[J)I" } : Jvm.MethodName)) : Cond) ∈ LW := LW_mem (lw_in5 _ (List.mem_of_getElem? (i := 91) (by decide +kernel))) rfl
theorem wL_76 : ((Jvm.Cond.codeWith ({ cls := "QueuewardLaw", name := "undo", desc := "(LQueueward;[J)I" } : Jvm.MethodName) method_9_code (3 : Nat) (Option.some Jvm.ClassFile.FieldType.int) [((0 : Nat), (8 : Nat), (11 : Nat), (43 : Nat))]) : Cond) ∈ LW := LW_mem (lw_in5 _ (List.mem_of_getElem? (i := 92) (by decide +kernel))) rfl
theorem wL_77 : ((Jvm.Cond.methodLink "QueuewardLaw" (176 : Nat) ({ cls := "QueuewardModel", name := "undo", desc := "()I" } : Jvm.MethodName)) : Cond) ∈ LW := LW_mem (lw_in8 _ (List.mem_of_getElem? (i := 134) (by decide +kernel))) rfl
theorem wL_78 : ((Jvm.Cond.instanceMethod ({ cls := "QueuewardModel", name := "undo", desc := "()I" } : Jvm.MethodName)) : Cond) ∈ LW := LW_mem (lw_in8 _ (List.mem_of_getElem? (i := 135) (by decide +kernel))) rfl
theorem wL_79 : ((Jvm.Cond.selects "QueuewardModel" ({ cls := "QueuewardModel", name := "undo", desc := "()I" } : Jvm.MethodName) ({ cls := "QueuewardModel", name := "undo", desc := "()I" } : Jvm.MethodName)) : Cond) ∈ LW := LW_mem (lw_in8 _ (List.mem_of_getElem? (i := 136) (by decide +kernel))) rfl
theorem wL_80 : ((Jvm.Cond.code ({ cls := "QueuewardModel", name := "undo", desc := "()I" } : Jvm.MethodName) prog_14_method_49_code (2 : Nat) (Option.some Jvm.ClassFile.FieldType.int)) : Cond) ∈ LW := LW_mem (lw_in8 _ (List.mem_of_getElem? (i := 137) (by decide +kernel))) rfl
theorem wL_81 : ((Jvm.Cond.methodLink "QueuewardLaw" (177 : Nat) ({ cls := "QueuewardLaw", name := "line", desc := "(LQueueward;IIII[J)I" } : Jvm.MethodName)) : Cond) ∈ LW := LW_mem (lw_in5 _ (List.mem_of_getElem? (i := 118) (by decide +kernel))) rfl
theorem wL_82 : ((Jvm.Cond.static ({ cls := "QueuewardLaw", name := "line", desc := "(LQueueward;IIII[J)I" } : Jvm.MethodName)) : Cond) ∈ LW := LW_mem (lw_in5 _ (List.mem_of_getElem? (i := 119) (by decide +kernel))) rfl
theorem wL_83 : ((Jvm.Cond.codeWith ({ cls := "QueuewardLaw", name := "line", desc := "(LQueueward;IIII[J)I" } : Jvm.MethodName) method_10_code (7 : Nat) (Option.some Jvm.ClassFile.FieldType.int) [((0 : Nat), (14 : Nat), (17 : Nat), (25 : Nat))]) : Cond) ∈ LW := LW_mem (lw_in5 _ (List.mem_of_getElem? (i := 120) (by decide +kernel))) rfl
theorem wL_84 : ((Jvm.Cond.methodLink "QueuewardLaw" (179 : Nat) ({ cls := "QueuewardModel", name := "line", desc := "(IIII)I" } : Jvm.MethodName)) : Cond) ∈ LW := LW_mem (lw_in8 _ (List.mem_of_getElem? (i := 138) (by decide +kernel))) rfl
theorem wL_85 : ((Jvm.Cond.instanceMethod ({ cls := "QueuewardModel", name := "line", desc := "(IIII)I" } : Jvm.MethodName)) : Cond) ∈ LW := LW_mem (lw_in8 _ (List.mem_of_getElem? (i := 139) (by decide +kernel))) rfl
theorem wL_86 : ((Jvm.Cond.selects "QueuewardModel" ({ cls := "QueuewardModel", name := "line", desc := "(IIII)I" } : Jvm.MethodName) ({ cls := "QueuewardModel", name := "line", desc := "(IIII)I" } : Jvm.MethodName)) : Cond) ∈ LW := LW_mem (lw_in8 _ (List.mem_of_getElem? (i := 140) (by decide +kernel))) rfl
theorem wL_87 : ((Jvm.Cond.code ({ cls := "QueuewardModel", name := "line", desc := "(IIII)I" } : Jvm.MethodName) prog_14_method_50_code (6 : Nat) (Option.some Jvm.ClassFile.FieldType.int)) : Cond) ∈ LW := LW_mem (lw_in8 _ (List.mem_of_getElem? (i := 141) (by decide +kernel))) rfl
theorem wL_88 : ((Jvm.Cond.methodLink "QueuewardLaw" (180 : Nat) ({ cls := "QueuewardLaw", name := "jobAt", desc := "(LQueueward;II[J)I" } : Jvm.MethodName)) : Cond) ∈ LW := LW_mem (lw_in5 _ (List.mem_of_getElem? (i := 126) (by decide +kernel))) rfl
theorem wL_89 : ((Jvm.Cond.static ({ cls := "QueuewardLaw", name := "jobAt", desc := "(LQueueward;II[J)I" } : Jvm.MethodName)) : Cond) ∈ LW := LW_mem (lw_in5 _ (List.mem_of_getElem? (i := 127) (by decide +kernel))) rfl
theorem wL_90 : ((Jvm.Cond.codeWith ({ cls := "QueuewardLaw", name := "jobAt", desc := "(LQueueward;II[J)I" } : Jvm.MethodName) method_11_code (5 : Nat) (Option.some Jvm.ClassFile.FieldType.int) [((0 : Nat), (10 : Nat), (13 : Nat), (31 : Nat)), ((0 : Nat), (10 : Nat), (17 : Nat), (25 : Nat))]) : Cond) ∈ LW := LW_mem (lw_in5 _ (List.mem_of_getElem? (i := 128) (by decide +kernel))) rfl
theorem wL_91 : ((Jvm.Cond.methodLink "QueuewardLaw" (183 : Nat) ({ cls := "QueuewardModel", name := "jobAt", desc := "(II)I" } : Jvm.MethodName)) : Cond) ∈ LW := LW_mem (lw_in8 _ (List.mem_of_getElem? (i := 142) (by decide +kernel))) rfl
theorem wL_92 : ((Jvm.Cond.instanceMethod ({ cls := "QueuewardModel", name := "jobAt", desc := "(II)I" } : Jvm.MethodName)) : Cond) ∈ LW := LW_mem (lw_in8 _ (List.mem_of_getElem? (i := 143) (by decide +kernel))) rfl
theorem wL_93 : ((Jvm.Cond.selects "QueuewardModel" ({ cls := "QueuewardModel", name := "jobAt", desc := "(II)I" } : Jvm.MethodName) ({ cls := "QueuewardModel", name := "jobAt", desc := "(II)I" } : Jvm.MethodName)) : Cond) ∈ LW := LW_mem (lw_in8 _ (List.mem_of_getElem? (i := 144) (by decide +kernel))) rfl
theorem wL_94 : ((Jvm.Cond.code ({ cls := "QueuewardModel", name := "jobAt", desc := "(II)I" } : Jvm.MethodName) prog_14_method_61_code (4 : Nat) (Option.some Jvm.ClassFile.FieldType.int)) : Cond) ∈ LW := LW_mem (lw_in8 _ (List.mem_of_getElem? (i := 145) (by decide +kernel))) rfl
theorem wL_95 : ((Jvm.Cond.methodLink "QueuewardLaw" (184 : Nat) ({ cls := "Queueward", name := "numberAt", desc := "(I)I" } : Jvm.MethodName)) : Cond) ∈ LW := LW_mem (lw_in3 _ (List.mem_of_getElem? (i := 84) (by decide +kernel))) rfl
theorem wL_96 : ((Jvm.Cond.instanceMethod ({ cls := "Queueward", name := "numberAt", desc := "(I)I" } : Jvm.MethodName)) : Cond) ∈ LW := LW_mem (lw_in3 _ (List.mem_of_getElem? (i := 85) (by decide +kernel))) rfl
theorem wL_97 : ((Jvm.Cond.selects "Queueward" ({ cls := "Queueward", name := "numberAt", desc := "(I)I" } : Jvm.MethodName) ({ cls := "Queueward", name := "numberAt", desc := "(I)I" } : Jvm.MethodName)) : Cond) ∈ LW := LW_mem (lw_in3 _ (List.mem_of_getElem? (i := 86) (by decide +kernel))) rfl
theorem wL_98 : ((Jvm.Cond.code ({ cls := "Queueward", name := "numberAt", desc := "(I)I" } : Jvm.MethodName) prog_1_method_14_code (2 : Nat) (Option.some Jvm.ClassFile.FieldType.int)) : Cond) ∈ LW := LW_mem (lw_in3 _ (List.mem_of_getElem? (i := 87) (by decide +kernel))) rfl
theorem wL_99 : ((Jvm.Cond.methodLink "QueuewardLaw" (187 : Nat) ({ cls := "QueuewardModel", name := "numberAt", desc := "(I)I" } : Jvm.MethodName)) : Cond) ∈ LW := LW_mem (lw_in8 _ (List.mem_of_getElem? (i := 182) (by decide +kernel))) rfl
theorem wL_100 : ((Jvm.Cond.instanceMethod ({ cls := "QueuewardModel", name := "numberAt", desc := "(I)I" } : Jvm.MethodName)) : Cond) ∈ LW := LW_mem (lw_in8 _ (List.mem_of_getElem? (i := 183) (by decide +kernel))) rfl
theorem wL_101 : ((Jvm.Cond.selects "QueuewardModel" ({ cls := "QueuewardModel", name := "numberAt", desc := "(I)I" } : Jvm.MethodName) ({ cls := "QueuewardModel", name := "numberAt", desc := "(I)I" } : Jvm.MethodName)) : Cond) ∈ LW := LW_mem (lw_in8 _ (List.mem_of_getElem? (i := 184) (by decide +kernel))) rfl
theorem wL_102 : ((Jvm.Cond.code ({ cls := "QueuewardModel", name := "numberAt", desc := "(I)I" } : Jvm.MethodName) prog_14_method_62_code (3 : Nat) (Option.some Jvm.ClassFile.FieldType.int)) : Cond) ∈ LW := LW_mem (lw_in8 _ (List.mem_of_getElem? (i := 185) (by decide +kernel))) rfl
theorem wL_103 : ((Jvm.Cond.methodLink "QueuewardLaw" (188 : Nat) ({ cls := "QueuewardLaw", name := "meanTime", desc := "(LQueueward;I[J)I" } : Jvm.MethodName)) : Cond) ∈ LW := LW_mem (lw_in5 _ (List.mem_of_getElem? (i := 137) (by decide +kernel))) rfl
theorem wL_104 : ((Jvm.Cond.static ({ cls := "QueuewardLaw", name := "meanTime", desc := "(LQueueward;I[J)I" } : Jvm.MethodName)) : Cond) ∈ LW := LW_mem (lw_in5 _ (List.mem_of_getElem? (i := 138) (by decide +kernel))) rfl
theorem wL_105 : ((Jvm.Cond.codeWith ({ cls := "QueuewardLaw", name := "meanTime", desc := "(LQueueward;I[J)I" } : Jvm.MethodName) method_12_code (4 : Nat) (Option.some Jvm.ClassFile.FieldType.int) [((0 : Nat), (9 : Nat), (12 : Nat), (25 : Nat))]) : Cond) ∈ LW := LW_mem (lw_in5 _ (List.mem_of_getElem? (i := 139) (by decide +kernel))) rfl
theorem wL_106 : ((Jvm.Cond.methodLink "QueuewardLaw" (190 : Nat) ({ cls := "QueuewardModel", name := "meanTime", desc := "(I)I" } : Jvm.MethodName)) : Cond) ∈ LW := LW_mem (lw_in8 _ (List.mem_of_getElem? (i := 186) (by decide +kernel))) rfl
theorem wL_107 : ((Jvm.Cond.instanceMethod ({ cls := "QueuewardModel", name := "meanTime", desc := "(I)I" } : Jvm.MethodName)) : Cond) ∈ LW := LW_mem (lw_in8 _ (List.mem_of_getElem? (i := 187) (by decide +kernel))) rfl
theorem wL_108 : ((Jvm.Cond.selects "QueuewardModel" ({ cls := "QueuewardModel", name := "meanTime", desc := "(I)I" } : Jvm.MethodName) ({ cls := "QueuewardModel", name := "meanTime", desc := "(I)I" } : Jvm.MethodName)) : Cond) ∈ LW := LW_mem (lw_in8 _ (List.mem_of_getElem? (i := 188) (by decide +kernel))) rfl
theorem wL_109 : ((Jvm.Cond.code ({ cls := "QueuewardModel", name := "meanTime", desc := "(I)I" } : Jvm.MethodName) prog_14_method_63_code (8 : Nat) (Option.some Jvm.ClassFile.FieldType.int)) : Cond) ∈ LW := LW_mem (lw_in8 _ (List.mem_of_getElem? (i := 189) (by decide +kernel))) rfl
theorem wL_110 : ((Jvm.Cond.methodLink "QueuewardLaw" (191 : Nat) ({ cls := "Queueward", name := "sumTimes", desc := "(Z)I" } : Jvm.MethodName)) : Cond) ∈ LW := LW_mem (lw_in3 _ (List.mem_of_getElem? (i := 137) (by decide +kernel))) rfl
theorem wL_111 : ((Jvm.Cond.instanceMethod ({ cls := "Queueward", name := "sumTimes", desc := "(Z)I" } : Jvm.MethodName)) : Cond) ∈ LW := LW_mem (lw_in3 _ (List.mem_of_getElem? (i := 138) (by decide +kernel))) rfl
theorem wL_112 : ((Jvm.Cond.selects "Queueward" ({ cls := "Queueward", name := "sumTimes", desc := "(Z)I" } : Jvm.MethodName) ({ cls := "Queueward", name := "sumTimes", desc := "(Z)I" } : Jvm.MethodName)) : Cond) ∈ LW := LW_mem (lw_in3 _ (List.mem_of_getElem? (i := 139) (by decide +kernel))) rfl
theorem wL_113 : ((Jvm.Cond.code ({ cls := "Queueward", name := "sumTimes", desc := "(Z)I" } : Jvm.MethodName) prog_1_method_16_code (2 : Nat) (Option.some Jvm.ClassFile.FieldType.int)) : Cond) ∈ LW := LW_mem (lw_in3 _ (List.mem_of_getElem? (i := 140) (by decide +kernel))) rfl
theorem wL_114 : ((Jvm.Cond.methodLink "QueuewardLaw" (194 : Nat) ({ cls := "QueuewardModel", name := "sumTimes", desc := "(Z)I" } : Jvm.MethodName)) : Cond) ∈ LW := LW_mem (lw_in8 _ (List.mem_of_getElem? (i := 198) (by decide +kernel))) rfl
theorem wL_115 : ((Jvm.Cond.instanceMethod ({ cls := "QueuewardModel", name := "sumTimes", desc := "(Z)I" } : Jvm.MethodName)) : Cond) ∈ LW := LW_mem (lw_in8 _ (List.mem_of_getElem? (i := 199) (by decide +kernel))) rfl
theorem wL_116 : ((Jvm.Cond.selects "QueuewardModel" ({ cls := "QueuewardModel", name := "sumTimes", desc := "(Z)I" } : Jvm.MethodName) ({ cls := "QueuewardModel", name := "sumTimes", desc := "(Z)I" } : Jvm.MethodName)) : Cond) ∈ LW := LW_mem (lw_in8 _ (List.mem_of_getElem? (i := 200) (by decide +kernel))) rfl
theorem wL_117 : ((Jvm.Cond.code ({ cls := "QueuewardModel", name := "sumTimes", desc := "(Z)I" } : Jvm.MethodName) prog_14_method_64_code (2 : Nat) (Option.some Jvm.ClassFile.FieldType.int)) : Cond) ∈ LW := LW_mem (lw_in8 _ (List.mem_of_getElem? (i := 201) (by decide +kernel))) rfl
theorem wL_118 : ((Jvm.Cond.methodLink "QueuewardLaw" (195 : Nat) ({ cls := "QueuewardLaw", name := "states", desc := "(LQueueward;II[J)I" } : Jvm.MethodName)) : Cond) ∈ LW := LW_mem (lw_in5 _ (List.mem_of_getElem? (i := 158) (by decide +kernel))) rfl
theorem wL_119 : ((Jvm.Cond.static ({ cls := "QueuewardLaw", name := "states", desc := "(LQueueward;II[J)I" } : Jvm.MethodName)) : Cond) ∈ LW := LW_mem (lw_in5 _ (List.mem_of_getElem? (i := 159) (by decide +kernel))) rfl
theorem wL_120 : ((Jvm.Cond.codeWith ({ cls := "QueuewardLaw", name := "states", desc := "(LQueueward;II[J)I" } : Jvm.MethodName) method_13_code (5 : Nat) (Option.some Jvm.ClassFile.FieldType.int) [((0 : Nat), (10 : Nat), (13 : Nat), (25 : Nat))]) : Cond) ∈ LW := LW_mem (lw_in5 _ (List.mem_of_getElem? (i := 160) (by decide +kernel))) rfl
theorem wL_121 : ((Jvm.Cond.methodLink "QueuewardLaw" (197 : Nat) ({ cls := "QueuewardModel", name := "states", desc := "(II)I" } : Jvm.MethodName)) : Cond) ∈ LW := LW_mem (lw_in8 _ (List.mem_of_getElem? (i := 206) (by decide +kernel))) rfl
theorem wL_122 : ((Jvm.Cond.instanceMethod ({ cls := "QueuewardModel", name := "states", desc := "(II)I" } : Jvm.MethodName)) : Cond) ∈ LW := LW_mem (lw_in8 _ (List.mem_of_getElem? (i := 207) (by decide +kernel))) rfl
theorem wL_123 : ((Jvm.Cond.selects "QueuewardModel" ({ cls := "QueuewardModel", name := "states", desc := "(II)I" } : Jvm.MethodName) ({ cls := "QueuewardModel", name := "states", desc := "(II)I" } : Jvm.MethodName)) : Cond) ∈ LW := LW_mem (lw_in8 _ (List.mem_of_getElem? (i := 208) (by decide +kernel))) rfl
theorem wL_124 : ((Jvm.Cond.code ({ cls := "QueuewardModel", name := "states", desc := "(II)I" } : Jvm.MethodName) prog_14_method_66_code (5 : Nat) (Option.some Jvm.ClassFile.FieldType.int)) : Cond) ∈ LW := LW_mem (lw_in8 _ (List.mem_of_getElem? (i := 209) (by decide +kernel))) rfl
theorem wL_125 : ((Jvm.Cond.methodLink "QueuewardLaw" (198 : Nat) ({ cls := "QueuewardLaw", name := "chance", desc := "(LQueueward;III[J)I" } : Jvm.MethodName)) : Cond) ∈ LW := LW_mem (lw_in5 _ (List.mem_of_getElem? (i := 170) (by decide +kernel))) rfl
theorem wL_126 : ((Jvm.Cond.static ({ cls := "QueuewardLaw", name := "chance", desc := "(LQueueward;III[J)I" } : Jvm.MethodName)) : Cond) ∈ LW := LW_mem (lw_in5 _ (List.mem_of_getElem? (i := 171) (by decide +kernel))) rfl
theorem wL_127 : ((Jvm.Cond.codeWith ({ cls := "QueuewardLaw", name := "chance", desc := "(LQueueward;III[J)I" } : Jvm.MethodName) method_14_code (6 : Nat) (Option.some Jvm.ClassFile.FieldType.int) [((0 : Nat), (12 : Nat), (15 : Nat), (31 : Nat)), ((0 : Nat), (12 : Nat), (19 : Nat), (25 : Nat))]) : Cond) ∈ LW := LW_mem (lw_in5 _ (List.mem_of_getElem? (i := 172) (by decide +kernel))) rfl
theorem wL_128 : ((Jvm.Cond.methodLink "QueuewardLaw" (201 : Nat) ({ cls := "QueuewardModel", name := "chance", desc := "(III)I" } : Jvm.MethodName)) : Cond) ∈ LW := LW_mem (lw_in8 _ (List.mem_of_getElem? (i := 210) (by decide +kernel))) rfl
theorem wL_129 : ((Jvm.Cond.instanceMethod ({ cls := "QueuewardModel", name := "chance", desc := "(III)I" } : Jvm.MethodName)) : Cond) ∈ LW := LW_mem (lw_in8 _ (List.mem_of_getElem? (i := 211) (by decide +kernel))) rfl
theorem wL_130 : ((Jvm.Cond.selects "QueuewardModel" ({ cls := "QueuewardModel", name := "chance", desc := "(III)I" } : Jvm.MethodName) ({ cls := "QueuewardModel", name := "chance", desc := "(III)I" } : Jvm.MethodName)) : Cond) ∈ LW := LW_mem (lw_in8 _ (List.mem_of_getElem? (i := 212) (by decide +kernel))) rfl
theorem wL_131 : ((Jvm.Cond.code ({ cls := "QueuewardModel", name := "chance", desc := "(III)I" } : Jvm.MethodName) prog_14_method_68_code (4 : Nat) (Option.some Jvm.ClassFile.FieldType.int)) : Cond) ∈ LW := LW_mem (lw_in8 _ (List.mem_of_getElem? (i := 213) (by decide +kernel))) rfl
theorem wL_132 : ((Jvm.Cond.methodLink "QueuewardLaw" (202 : Nat) ({ cls := "QueuewardLaw", name := "group", desc := "(LQueueward;I[J)I" } : Jvm.MethodName)) : Cond) ∈ LW := LW_mem (lw_in5 _ (List.mem_of_getElem? (i := 184) (by decide +kernel))) rfl
theorem wL_133 : ((Jvm.Cond.static ({ cls := "QueuewardLaw", name := "group", desc := "(LQueueward;I[J)I" } : Jvm.MethodName)) : Cond) ∈ LW := LW_mem (lw_in5 _ (List.mem_of_getElem? (i := 185) (by decide +kernel))) rfl
theorem wL_134 : ((Jvm.Cond.codeWith ({ cls := "QueuewardLaw", name := "group", desc := "(LQueueward;I[J)I" } : Jvm.MethodName) method_15_code (4 : Nat) (Option.some Jvm.ClassFile.FieldType.int) [((0 : Nat), (9 : Nat), (12 : Nat), (31 : Nat)), ((0 : Nat), (9 : Nat), (15 : Nat), (43 : Nat))]) : Cond) ∈ LW := LW_mem (lw_in5 _ (List.mem_of_getElem? (i := 186) (by decide +kernel))) rfl
theorem wL_135 : ((Jvm.Cond.methodLink "QueuewardLaw" (204 : Nat) ({ cls := "QueuewardModel", name := "group", desc := "(I)I" } : Jvm.MethodName)) : Cond) ∈ LW := LW_mem (lw_in8 _ (List.mem_of_getElem? (i := 222) (by decide +kernel))) rfl
theorem wL_136 : ((Jvm.Cond.instanceMethod ({ cls := "QueuewardModel", name := "group", desc := "(I)I" } : Jvm.MethodName)) : Cond) ∈ LW := LW_mem (lw_in8 _ (List.mem_of_getElem? (i := 223) (by decide +kernel))) rfl
theorem wL_137 : ((Jvm.Cond.selects "QueuewardModel" ({ cls := "QueuewardModel", name := "group", desc := "(I)I" } : Jvm.MethodName) ({ cls := "QueuewardModel", name := "group", desc := "(I)I" } : Jvm.MethodName)) : Cond) ∈ LW := LW_mem (lw_in8 _ (List.mem_of_getElem? (i := 224) (by decide +kernel))) rfl
theorem wL_138 : ((Jvm.Cond.code ({ cls := "QueuewardModel", name := "group", desc := "(I)I" } : Jvm.MethodName) prog_14_method_74_code (3 : Nat) (Option.some Jvm.ClassFile.FieldType.int)) : Cond) ∈ LW := LW_mem (lw_in8 _ (List.mem_of_getElem? (i := 225) (by decide +kernel))) rfl
theorem wL_139 : ((Jvm.Cond.methodLink "QueuewardLaw" (205 : Nat) ({ cls := "QueuewardLaw", name := "longShare", desc := "(LQueueward;I[J)I" } : Jvm.MethodName)) : Cond) ∈ LW := LW_mem (lw_in5 _ (List.mem_of_getElem? (i := 206) (by decide +kernel))) rfl
theorem wL_140 : ((Jvm.Cond.static ({ cls := "QueuewardLaw", name := "longShare", desc := "(LQueueward;I[J)I" } : Jvm.MethodName)) : Cond) ∈ LW := LW_mem (lw_in5 _ (List.mem_of_getElem? (i := 207) (by decide +kernel))) rfl
theorem wL_141 : ((Jvm.Cond.codeWith ({ cls := "QueuewardLaw", name := "longShare", desc := "(LQueueward;I[J)I" } : Jvm.MethodName) method_16_code (4 : Nat) (Option.some Jvm.ClassFile.FieldType.int) [((0 : Nat), (9 : Nat), (12 : Nat), (31 : Nat)), ((0 : Nat), (9 : Nat), (15 : Nat), (43 : Nat))]) : Cond) ∈ LW := LW_mem (lw_in5 _ (List.mem_of_getElem? (i := 208) (by decide +kernel))) rfl
theorem wL_142 : ((Jvm.Cond.methodLink "QueuewardLaw" (207 : Nat) ({ cls := "QueuewardModel", name := "longShare", desc := "(I)I" } : Jvm.MethodName)) : Cond) ∈ LW := LW_mem (lw_in9 _ (List.mem_of_getElem? (i := 5) (by decide +kernel))) rfl
theorem wL_143 : ((Jvm.Cond.instanceMethod ({ cls := "QueuewardModel", name := "longShare", desc := "(I)I" } : Jvm.MethodName)) : Cond) ∈ LW := LW_mem (lw_in9 _ (List.mem_of_getElem? (i := 6) (by decide +kernel))) rfl
theorem wL_144 : ((Jvm.Cond.selects "QueuewardModel" ({ cls := "QueuewardModel", name := "longShare", desc := "(I)I" } : Jvm.MethodName) ({ cls := "QueuewardModel", name := "longShare", desc := "(I)I" } : Jvm.MethodName)) : Cond) ∈ LW := LW_mem (lw_in9 _ (List.mem_of_getElem? (i := 7) (by decide +kernel))) rfl
theorem wL_145 : ((Jvm.Cond.code ({ cls := "QueuewardModel", name := "longShare", desc := "(I)I" } : Jvm.MethodName) prog_14_method_81_code (5 : Nat) (Option.some Jvm.ClassFile.FieldType.int)) : Cond) ∈ LW := LW_mem (lw_in9 _ (List.mem_of_getElem? (i := 8) (by decide +kernel))) rfl
theorem wL_146 : ((Jvm.Cond.methodLink "QueuewardLaw" (208 : Nat) ({ cls := "QueuewardLaw", name := "reach", desc := "(LQueueward;II[J)I" } : Jvm.MethodName)) : Cond) ∈ LW := LW_mem (lw_in5 _ (List.mem_of_getElem? (i := 219) (by decide +kernel))) rfl
theorem wL_147 : ((Jvm.Cond.static ({ cls := "QueuewardLaw", name := "reach", desc := "(LQueueward;II[J)I" } : Jvm.MethodName)) : Cond) ∈ LW := LW_mem (lw_in5 _ (List.mem_of_getElem? (i := 220) (by decide +kernel))) rfl
theorem wL_148 : ((Jvm.Cond.codeWith ({ cls := "QueuewardLaw", name := "reach", desc := "(LQueueward;II[J)I" } : Jvm.MethodName) method_17_code (5 : Nat) (Option.some Jvm.ClassFile.FieldType.int) [((0 : Nat), (10 : Nat), (13 : Nat), (31 : Nat)), ((0 : Nat), (10 : Nat), (17 : Nat), (43 : Nat))]) : Cond) ∈ LW := LW_mem (lw_in5 _ (List.mem_of_getElem? (i := 221) (by decide +kernel))) rfl
theorem wL_149 : ((Jvm.Cond.methodLink "QueuewardLaw" (210 : Nat) ({ cls := "QueuewardModel", name := "reach", desc := "(II)I" } : Jvm.MethodName)) : Cond) ∈ LW := LW_mem (lw_in9 _ (List.mem_of_getElem? (i := 53) (by decide +kernel))) rfl
theorem wL_150 : ((Jvm.Cond.instanceMethod ({ cls := "QueuewardModel", name := "reach", desc := "(II)I" } : Jvm.MethodName)) : Cond) ∈ LW := LW_mem (lw_in9 _ (List.mem_of_getElem? (i := 54) (by decide +kernel))) rfl
theorem wL_151 : ((Jvm.Cond.selects "QueuewardModel" ({ cls := "QueuewardModel", name := "reach", desc := "(II)I" } : Jvm.MethodName) ({ cls := "QueuewardModel", name := "reach", desc := "(II)I" } : Jvm.MethodName)) : Cond) ∈ LW := LW_mem (lw_in9 _ (List.mem_of_getElem? (i := 55) (by decide +kernel))) rfl
theorem wL_152 : ((Jvm.Cond.code ({ cls := "QueuewardModel", name := "reach", desc := "(II)I" } : Jvm.MethodName) prog_14_method_84_code (5 : Nat) (Option.some Jvm.ClassFile.FieldType.int)) : Cond) ∈ LW := LW_mem (lw_in9 _ (List.mem_of_getElem? (i := 56) (by decide +kernel))) rfl
theorem wL_153 : ((Jvm.Cond.methodLink "QueuewardLaw" (211 : Nat) ({ cls := "QueuewardLaw", name := "timeTo", desc := "(LQueueward;II[J)I" } : Jvm.MethodName)) : Cond) ∈ LW := LW_mem (lw_in5 _ (List.mem_of_getElem? (i := 234) (by decide +kernel))) rfl
theorem wL_154 : ((Jvm.Cond.static ({ cls := "QueuewardLaw", name := "timeTo", desc := "(LQueueward;II[J)I" } : Jvm.MethodName)) : Cond) ∈ LW := LW_mem (lw_in5 _ (List.mem_of_getElem? (i := 235) (by decide +kernel))) rfl
theorem wL_155 : ((Jvm.Cond.codeWith ({ cls := "QueuewardLaw", name := "timeTo", desc := "(LQueueward;II[J)I" } : Jvm.MethodName) method_18_code (5 : Nat) (Option.some Jvm.ClassFile.FieldType.int) [((0 : Nat), (10 : Nat), (13 : Nat), (31 : Nat)), ((0 : Nat), (10 : Nat), (17 : Nat), (43 : Nat))]) : Cond) ∈ LW := LW_mem (lw_in5 _ (List.mem_of_getElem? (i := 236) (by decide +kernel))) rfl
theorem wL_156 : ((Jvm.Cond.methodLink "QueuewardLaw" (213 : Nat) ({ cls := "QueuewardModel", name := "timeTo", desc := "(II)I" } : Jvm.MethodName)) : Cond) ∈ LW := LW_mem (lw_in9 _ (List.mem_of_getElem? (i := 65) (by decide +kernel))) rfl
theorem wL_157 : ((Jvm.Cond.instanceMethod ({ cls := "QueuewardModel", name := "timeTo", desc := "(II)I" } : Jvm.MethodName)) : Cond) ∈ LW := LW_mem (lw_in9 _ (List.mem_of_getElem? (i := 66) (by decide +kernel))) rfl
theorem wL_158 : ((Jvm.Cond.selects "QueuewardModel" ({ cls := "QueuewardModel", name := "timeTo", desc := "(II)I" } : Jvm.MethodName) ({ cls := "QueuewardModel", name := "timeTo", desc := "(II)I" } : Jvm.MethodName)) : Cond) ∈ LW := LW_mem (lw_in9 _ (List.mem_of_getElem? (i := 67) (by decide +kernel))) rfl
theorem wL_159 : ((Jvm.Cond.code ({ cls := "QueuewardModel", name := "timeTo", desc := "(II)I" } : Jvm.MethodName) prog_14_method_85_code (4 : Nat) (Option.some Jvm.ClassFile.FieldType.int)) : Cond) ∈ LW := LW_mem (lw_in9 _ (List.mem_of_getElem? (i := 68) (by decide +kernel))) rfl
theorem wL_160 : ((Jvm.Cond.methodLink "QueuewardLaw" (214 : Nat) ({ cls := "QueuewardLaw", name := "behind", desc := "(LQueueward;III[J)I" } : Jvm.MethodName)) : Cond) ∈ LW := LW_mem (lw_in6 _ (List.mem_of_getElem? (i := 14) (by decide +kernel))) rfl
theorem wL_161 : ((Jvm.Cond.static ({ cls := "QueuewardLaw", name := "behind", desc := "(LQueueward;III[J)I" } : Jvm.MethodName)) : Cond) ∈ LW := LW_mem (lw_in6 _ (List.mem_of_getElem? (i := 15) (by decide +kernel))) rfl
theorem wL_162 : ((Jvm.Cond.codeWith ({ cls := "QueuewardLaw", name := "behind", desc := "(LQueueward;III[J)I" } : Jvm.MethodName) method_19_code (6 : Nat) (Option.some Jvm.ClassFile.FieldType.int) [((0 : Nat), (12 : Nat), (15 : Nat), (31 : Nat)), ((0 : Nat), (12 : Nat), (19 : Nat), (25 : Nat)), ((0 : Nat), (12 : Nat), (23 : Nat), (43 : Nat))]) : Cond) ∈ LW := LW_mem (lw_in6 _ (List.mem_of_getElem? (i := 16) (by decide +kernel))) rfl
theorem wL_163 : ((Jvm.Cond.methodLink "QueuewardLaw" (216 : Nat) ({ cls := "QueuewardModel", name := "behind", desc := "(III)I" } : Jvm.MethodName)) : Cond) ∈ LW := LW_mem (lw_in9 _ (List.mem_of_getElem? (i := 69) (by decide +kernel))) rfl
theorem wL_164 : ((Jvm.Cond.instanceMethod ({ cls := "QueuewardModel", name := "behind", desc := "(III)I" } : Jvm.MethodName)) : Cond) ∈ LW := LW_mem (lw_in9 _ (List.mem_of_getElem? (i := 70) (by decide +kernel))) rfl
theorem wL_165 : ((Jvm.Cond.selects "QueuewardModel" ({ cls := "QueuewardModel", name := "behind", desc := "(III)I" } : Jvm.MethodName) ({ cls := "QueuewardModel", name := "behind", desc := "(III)I" } : Jvm.MethodName)) : Cond) ∈ LW := LW_mem (lw_in9 _ (List.mem_of_getElem? (i := 71) (by decide +kernel))) rfl
theorem wL_166 : ((Jvm.Cond.code ({ cls := "QueuewardModel", name := "behind", desc := "(III)I" } : Jvm.MethodName) prog_14_method_86_code (7 : Nat) (Option.some Jvm.ClassFile.FieldType.int)) : Cond) ∈ LW := LW_mem (lw_in9 _ (List.mem_of_getElem? (i := 72) (by decide +kernel))) rfl
theorem wL_167 : ((Jvm.Cond.methodLink "QueuewardLaw" (217 : Nat) ({ cls := "QueuewardLaw", name := "lostShare", desc := "(LQueueward;III[J)I" } : Jvm.MethodName)) : Cond) ∈ LW := LW_mem (lw_in6 _ (List.mem_of_getElem? (i := 76) (by decide +kernel))) rfl
theorem wL_168 : ((Jvm.Cond.static ({ cls := "QueuewardLaw", name := "lostShare", desc := "(LQueueward;III[J)I" } : Jvm.MethodName)) : Cond) ∈ LW := LW_mem (lw_in6 _ (List.mem_of_getElem? (i := 77) (by decide +kernel))) rfl
theorem wL_169 : ((Jvm.Cond.codeWith ({ cls := "QueuewardLaw", name := "lostShare", desc := "(LQueueward;III[J)I" } : Jvm.MethodName) method_20_code (6 : Nat) (Option.some Jvm.ClassFile.FieldType.int) [((0 : Nat), (12 : Nat), (15 : Nat), (25 : Nat))]) : Cond) ∈ LW := LW_mem (lw_in6 _ (List.mem_of_getElem? (i := 78) (by decide +kernel))) rfl
theorem wL_170 : ((Jvm.Cond.methodLink "QueuewardLaw" (219 : Nat) ({ cls := "QueuewardModel", name := "lostShare", desc := "(III)I" } : Jvm.MethodName)) : Cond) ∈ LW := LW_mem (lw_in9 _ (List.mem_of_getElem? (i := 73) (by decide +kernel))) rfl
theorem wL_171 : ((Jvm.Cond.instanceMethod ({ cls := "QueuewardModel", name := "lostShare", desc := "(III)I" } : Jvm.MethodName)) : Cond) ∈ LW := LW_mem (lw_in9 _ (List.mem_of_getElem? (i := 74) (by decide +kernel))) rfl
theorem wL_172 : ((Jvm.Cond.selects "QueuewardModel" ({ cls := "QueuewardModel", name := "lostShare", desc := "(III)I" } : Jvm.MethodName) ({ cls := "QueuewardModel", name := "lostShare", desc := "(III)I" } : Jvm.MethodName)) : Cond) ∈ LW := LW_mem (lw_in9 _ (List.mem_of_getElem? (i := 75) (by decide +kernel))) rfl
theorem wL_173 : ((Jvm.Cond.code ({ cls := "QueuewardModel", name := "lostShare", desc := "(III)I" } : Jvm.MethodName) prog_14_method_90_code (4 : Nat) (Option.some Jvm.ClassFile.FieldType.int)) : Cond) ∈ LW := LW_mem (lw_in9 _ (List.mem_of_getElem? (i := 76) (by decide +kernel))) rfl
theorem wL_174 : ((Jvm.Cond.methodLink "QueuewardLaw" (220 : Nat) ({ cls := "QueuewardLaw", name := "serversFor", desc := "(LQueueward;IIII[J)I" } : Jvm.MethodName)) : Cond) ∈ LW := LW_mem (lw_in6 _ (List.mem_of_getElem? (i := 102) (by decide +kernel))) rfl
theorem wL_175 : ((Jvm.Cond.static ({ cls := "QueuewardLaw", name := "serversFor", desc := "(LQueueward;IIII[J)I" } : Jvm.MethodName)) : Cond) ∈ LW := LW_mem (lw_in6 _ (List.mem_of_getElem? (i := 103) (by decide +kernel))) rfl
theorem wL_176 : ((Jvm.Cond.codeWith ({ cls := "QueuewardLaw", name := "serversFor", desc := "(LQueueward;IIII[J)I" } : Jvm.MethodName) method_21_code (7 : Nat) (Option.some Jvm.ClassFile.FieldType.int) [((0 : Nat), (14 : Nat), (17 : Nat), (25 : Nat)), ((0 : Nat), (14 : Nat), (21 : Nat), (43 : Nat))]) : Cond) ∈ LW := LW_mem (lw_in6 _ (List.mem_of_getElem? (i := 104) (by decide +kernel))) rfl
theorem wL_177 : ((Jvm.Cond.methodLink "QueuewardLaw" (222 : Nat) ({ cls := "QueuewardModel", name := "serversFor", desc := "(IIII)I" } : Jvm.MethodName)) : Cond) ∈ LW := LW_mem (lw_in9 _ (List.mem_of_getElem? (i := 88) (by decide +kernel))) rfl
theorem wL_178 : ((Jvm.Cond.instanceMethod ({ cls := "QueuewardModel", name := "serversFor", desc := "(IIII)I" } : Jvm.MethodName)) : Cond) ∈ LW := LW_mem (lw_in9 _ (List.mem_of_getElem? (i := 89) (by decide +kernel))) rfl
theorem wL_179 : ((Jvm.Cond.selects "QueuewardModel" ({ cls := "QueuewardModel", name := "serversFor", desc := "(IIII)I" } : Jvm.MethodName) ({ cls := "QueuewardModel", name := "serversFor", desc := "(IIII)I" } : Jvm.MethodName)) : Cond) ∈ LW := LW_mem (lw_in9 _ (List.mem_of_getElem? (i := 90) (by decide +kernel))) rfl
theorem wL_180 : ((Jvm.Cond.code ({ cls := "QueuewardModel", name := "serversFor", desc := "(IIII)I" } : Jvm.MethodName) prog_14_method_91_code (6 : Nat) (Option.some Jvm.ClassFile.FieldType.int)) : Cond) ∈ LW := LW_mem (lw_in9 _ (List.mem_of_getElem? (i := 91) (by decide +kernel))) rfl
theorem wL_181 : ((Jvm.Cond.methodLink "QueuewardLaw" (223 : Nat) ({ cls := "QueuewardLaw", name := "net", desc := "(LQueueward;I[J)I" } : Jvm.MethodName)) : Cond) ∈ LW := LW_mem (lw_in6 _ (List.mem_of_getElem? (i := 116) (by decide +kernel))) rfl
theorem wL_182 : ((Jvm.Cond.static ({ cls := "QueuewardLaw", name := "net", desc := "(LQueueward;I[J)I" } : Jvm.MethodName)) : Cond) ∈ LW := LW_mem (lw_in6 _ (List.mem_of_getElem? (i := 117) (by decide +kernel))) rfl
theorem wL_183 : ((Jvm.Cond.codeWith ({ cls := "QueuewardLaw", name := "net", desc := "(LQueueward;I[J)I" } : Jvm.MethodName) method_22_code (4 : Nat) (Option.some Jvm.ClassFile.FieldType.int) [((0 : Nat), (9 : Nat), (12 : Nat), (25 : Nat))]) : Cond) ∈ LW := LW_mem (lw_in6 _ (List.mem_of_getElem? (i := 118) (by decide +kernel))) rfl
theorem wL_184 : ((Jvm.Cond.methodLink "QueuewardLaw" (225 : Nat) ({ cls := "QueuewardModel", name := "net", desc := "(I)I" } : Jvm.MethodName)) : Cond) ∈ LW := LW_mem (lw_in9 _ (List.mem_of_getElem? (i := 96) (by decide +kernel))) rfl
theorem wL_185 : ((Jvm.Cond.instanceMethod ({ cls := "QueuewardModel", name := "net", desc := "(I)I" } : Jvm.MethodName)) : Cond) ∈ LW := LW_mem (lw_in9 _ (List.mem_of_getElem? (i := 97) (by decide +kernel))) rfl
theorem wL_186 : ((Jvm.Cond.selects "QueuewardModel" ({ cls := "QueuewardModel", name := "net", desc := "(I)I" } : Jvm.MethodName) ({ cls := "QueuewardModel", name := "net", desc := "(I)I" } : Jvm.MethodName)) : Cond) ∈ LW := LW_mem (lw_in9 _ (List.mem_of_getElem? (i := 98) (by decide +kernel))) rfl
theorem wL_187 : ((Jvm.Cond.code ({ cls := "QueuewardModel", name := "net", desc := "(I)I" } : Jvm.MethodName) prog_14_method_93_code (4 : Nat) (Option.some Jvm.ClassFile.FieldType.int)) : Cond) ∈ LW := LW_mem (lw_in9 _ (List.mem_of_getElem? (i := 99) (by decide +kernel))) rfl
theorem wL_188 : ((Jvm.Cond.methodLink "QueuewardLaw" (226 : Nat) ({ cls := "QueuewardLaw", name := "node", desc := "(LQueueward;III[J)I" } : Jvm.MethodName)) : Cond) ∈ LW := LW_mem (lw_in6 _ (List.mem_of_getElem? (i := 128) (by decide +kernel))) rfl
theorem wL_189 : ((Jvm.Cond.static ({ cls := "QueuewardLaw", name := "node", desc := "(LQueueward;III[J)I" } : Jvm.MethodName)) : Cond) ∈ LW := LW_mem (lw_in6 _ (List.mem_of_getElem? (i := 129) (by decide +kernel))) rfl
theorem wL_190 : ((Jvm.Cond.codeWith ({ cls := "QueuewardLaw", name := "node", desc := "(LQueueward;III[J)I" } : Jvm.MethodName) method_23_code (6 : Nat) (Option.some Jvm.ClassFile.FieldType.int) [((0 : Nat), (12 : Nat), (15 : Nat), (31 : Nat)), ((0 : Nat), (12 : Nat), (19 : Nat), (25 : Nat))]) : Cond) ∈ LW := LW_mem (lw_in6 _ (List.mem_of_getElem? (i := 130) (by decide +kernel))) rfl
theorem wL_191 : ((Jvm.Cond.methodLink "QueuewardLaw" (228 : Nat) ({ cls := "QueuewardModel", name := "node", desc := "(III)I" } : Jvm.MethodName)) : Cond) ∈ LW := LW_mem (lw_in9 _ (List.mem_of_getElem? (i := 100) (by decide +kernel))) rfl
theorem wL_192 : ((Jvm.Cond.instanceMethod ({ cls := "QueuewardModel", name := "node", desc := "(III)I" } : Jvm.MethodName)) : Cond) ∈ LW := LW_mem (lw_in9 _ (List.mem_of_getElem? (i := 101) (by decide +kernel))) rfl
theorem wL_193 : ((Jvm.Cond.selects "QueuewardModel" ({ cls := "QueuewardModel", name := "node", desc := "(III)I" } : Jvm.MethodName) ({ cls := "QueuewardModel", name := "node", desc := "(III)I" } : Jvm.MethodName)) : Cond) ∈ LW := LW_mem (lw_in9 _ (List.mem_of_getElem? (i := 102) (by decide +kernel))) rfl
theorem wL_194 : ((Jvm.Cond.code ({ cls := "QueuewardModel", name := "node", desc := "(III)I" } : Jvm.MethodName) prog_14_method_94_code (5 : Nat) (Option.some Jvm.ClassFile.FieldType.int)) : Cond) ∈ LW := LW_mem (lw_in9 _ (List.mem_of_getElem? (i := 103) (by decide +kernel))) rfl
theorem wL_195 : ((Jvm.Cond.methodLink "QueuewardLaw" (229 : Nat) ({ cls := "QueuewardLaw", name := "way", desc := "(LQueueward;III[J)I" } : Jvm.MethodName)) : Cond) ∈ LW := LW_mem (lw_in6 _ (List.mem_of_getElem? (i := 141) (by decide +kernel))) rfl
theorem wL_196 : ((Jvm.Cond.static ({ cls := "QueuewardLaw", name := "way", desc := "(LQueueward;III[J)I" } : Jvm.MethodName)) : Cond) ∈ LW := LW_mem (lw_in6 _ (List.mem_of_getElem? (i := 142) (by decide +kernel))) rfl
theorem wL_197 : ((Jvm.Cond.codeWith ({ cls := "QueuewardLaw", name := "way", desc := "(LQueueward;III[J)I" } : Jvm.MethodName) method_24_code (6 : Nat) (Option.some Jvm.ClassFile.FieldType.int) [((0 : Nat), (12 : Nat), (15 : Nat), (31 : Nat)), ((0 : Nat), (12 : Nat), (19 : Nat), (25 : Nat))]) : Cond) ∈ LW := LW_mem (lw_in6 _ (List.mem_of_getElem? (i := 143) (by decide +kernel))) rfl
theorem wL_198 : ((Jvm.Cond.methodLink "QueuewardLaw" (231 : Nat) ({ cls := "QueuewardModel", name := "way", desc := "(III)I" } : Jvm.MethodName)) : Cond) ∈ LW := LW_mem (lw_in9 _ (List.mem_of_getElem? (i := 108) (by decide +kernel))) rfl
theorem wL_199 : ((Jvm.Cond.instanceMethod ({ cls := "QueuewardModel", name := "way", desc := "(III)I" } : Jvm.MethodName)) : Cond) ∈ LW := LW_mem (lw_in9 _ (List.mem_of_getElem? (i := 109) (by decide +kernel))) rfl
theorem wL_200 : ((Jvm.Cond.selects "QueuewardModel" ({ cls := "QueuewardModel", name := "way", desc := "(III)I" } : Jvm.MethodName) ({ cls := "QueuewardModel", name := "way", desc := "(III)I" } : Jvm.MethodName)) : Cond) ∈ LW := LW_mem (lw_in9 _ (List.mem_of_getElem? (i := 110) (by decide +kernel))) rfl
theorem wL_201 : ((Jvm.Cond.code ({ cls := "QueuewardModel", name := "way", desc := "(III)I" } : Jvm.MethodName) prog_14_method_96_code (5 : Nat) (Option.some Jvm.ClassFile.FieldType.int)) : Cond) ∈ LW := LW_mem (lw_in9 _ (List.mem_of_getElem? (i := 111) (by decide +kernel))) rfl
theorem wL_202 : ((Jvm.Cond.methodLink "QueuewardLaw" (232 : Nat) ({ cls := "QueuewardLaw", name := "rate", desc := "(LQueueward;I[J)I" } : Jvm.MethodName)) : Cond) ∈ LW := LW_mem (lw_in6 _ (List.mem_of_getElem? (i := 149) (by decide +kernel))) rfl
theorem wL_203 : ((Jvm.Cond.static ({ cls := "QueuewardLaw", name := "rate", desc := "(LQueueward;I[J)I" } : Jvm.MethodName)) : Cond) ∈ LW := LW_mem (lw_in6 _ (List.mem_of_getElem? (i := 150) (by decide +kernel))) rfl
theorem wL_204 : ((Jvm.Cond.codeWith ({ cls := "QueuewardLaw", name := "rate", desc := "(LQueueward;I[J)I" } : Jvm.MethodName) method_25_code (4 : Nat) (Option.some Jvm.ClassFile.FieldType.int) [((0 : Nat), (9 : Nat), (12 : Nat), (31 : Nat)), ((0 : Nat), (9 : Nat), (15 : Nat), (43 : Nat))]) : Cond) ∈ LW := LW_mem (lw_in6 _ (List.mem_of_getElem? (i := 151) (by decide +kernel))) rfl
theorem wL_205 : ((Jvm.Cond.methodLink "QueuewardLaw" (234 : Nat) ({ cls := "QueuewardModel", name := "rate", desc := "(I)I" } : Jvm.MethodName)) : Cond) ∈ LW := LW_mem (lw_in9 _ (List.mem_of_getElem? (i := 116) (by decide +kernel))) rfl
theorem wL_206 : ((Jvm.Cond.instanceMethod ({ cls := "QueuewardModel", name := "rate", desc := "(I)I" } : Jvm.MethodName)) : Cond) ∈ LW := LW_mem (lw_in9 _ (List.mem_of_getElem? (i := 117) (by decide +kernel))) rfl
theorem wL_207 : ((Jvm.Cond.selects "QueuewardModel" ({ cls := "QueuewardModel", name := "rate", desc := "(I)I" } : Jvm.MethodName) ({ cls := "QueuewardModel", name := "rate", desc := "(I)I" } : Jvm.MethodName)) : Cond) ∈ LW := LW_mem (lw_in9 _ (List.mem_of_getElem? (i := 118) (by decide +kernel))) rfl
theorem wL_208 : ((Jvm.Cond.code ({ cls := "QueuewardModel", name := "rate", desc := "(I)I" } : Jvm.MethodName) prog_14_method_101_code (2 : Nat) (Option.some Jvm.ClassFile.FieldType.int)) : Cond) ∈ LW := LW_mem (lw_in9 _ (List.mem_of_getElem? (i := 119) (by decide +kernel))) rfl
theorem wL_209 : ((Jvm.Cond.methodLink "QueuewardLaw" (235 : Nat) ({ cls := "QueuewardLaw", name := "isStable", desc := "(LQueueward;I[J)I" } : Jvm.MethodName)) : Cond) ∈ LW := LW_mem (lw_in6 _ (List.mem_of_getElem? (i := 179) (by decide +kernel))) rfl
theorem wL_210 : ((Jvm.Cond.static ({ cls := "QueuewardLaw", name := "isStable", desc := "(LQueueward;I[J)I" } : Jvm.MethodName)) : Cond) ∈ LW := LW_mem (lw_in6 _ (List.mem_of_getElem? (i := 180) (by decide +kernel))) rfl
theorem wL_211 : ((Jvm.Cond.codeWith ({ cls := "QueuewardLaw", name := "isStable", desc := "(LQueueward;I[J)I" } : Jvm.MethodName) method_26_code (4 : Nat) (Option.some Jvm.ClassFile.FieldType.int) [((0 : Nat), (16 : Nat), (19 : Nat), (31 : Nat)), ((0 : Nat), (16 : Nat), (22 : Nat), (43 : Nat))]) : Cond) ∈ LW := LW_mem (lw_in6 _ (List.mem_of_getElem? (i := 181) (by decide +kernel))) rfl
theorem wL_212 : ((Jvm.Cond.methodLink "QueuewardLaw" (237 : Nat) ({ cls := "QueuewardModel", name := "isStable", desc := "(I)Z" } : Jvm.MethodName)) : Cond) ∈ LW := LW_mem (lw_in9 _ (List.mem_of_getElem? (i := 137) (by decide +kernel))) rfl
theorem wL_213 : ((Jvm.Cond.instanceMethod ({ cls := "QueuewardModel", name := "isStable", desc := "(I)Z" } : Jvm.MethodName)) : Cond) ∈ LW := LW_mem (lw_in9 _ (List.mem_of_getElem? (i := 138) (by decide +kernel))) rfl
theorem wL_214 : ((Jvm.Cond.selects "QueuewardModel" ({ cls := "QueuewardModel", name := "isStable", desc := "(I)Z" } : Jvm.MethodName) ({ cls := "QueuewardModel", name := "isStable", desc := "(I)Z" } : Jvm.MethodName)) : Cond) ∈ LW := LW_mem (lw_in9 _ (List.mem_of_getElem? (i := 139) (by decide +kernel))) rfl
theorem wL_215 : ((Jvm.Cond.code ({ cls := "QueuewardModel", name := "isStable", desc := "(I)Z" } : Jvm.MethodName) prog_14_method_103_code (2 : Nat) (Option.some Jvm.ClassFile.FieldType.boolean)) : Cond) ∈ LW := LW_mem (lw_in9 _ (List.mem_of_getElem? (i := 140) (by decide +kernel))) rfl
theorem wL_216 : ((Jvm.Cond.methodLink "QueuewardLaw" (238 : Nat) ({ cls := "QueuewardLaw", name := "numbers", desc := "(LQueueward;II[J)I" } : Jvm.MethodName)) : Cond) ∈ LW := LW_mem (lw_in6 _ (List.mem_of_getElem? (i := 190) (by decide +kernel))) rfl
theorem wL_217 : ((Jvm.Cond.static ({ cls := "QueuewardLaw", name := "numbers", desc := "(LQueueward;II[J)I" } : Jvm.MethodName)) : Cond) ∈ LW := LW_mem (lw_in6 _ (List.mem_of_getElem? (i := 191) (by decide +kernel))) rfl
theorem wL_218 : ((Jvm.Cond.codeWith ({ cls := "QueuewardLaw", name := "numbers", desc := "(LQueueward;II[J)I" } : Jvm.MethodName) method_27_code (5 : Nat) (Option.some Jvm.ClassFile.FieldType.int) [((0 : Nat), (10 : Nat), (13 : Nat), (31 : Nat)), ((0 : Nat), (10 : Nat), (17 : Nat), (25 : Nat)), ((0 : Nat), (10 : Nat), (21 : Nat), (43 : Nat))]) : Cond) ∈ LW := LW_mem (lw_in6 _ (List.mem_of_getElem? (i := 192) (by decide +kernel))) rfl
theorem wL_219 : ((Jvm.Cond.methodLink "QueuewardLaw" (240 : Nat) ({ cls := "QueuewardModel", name := "numbers", desc := "(II)I" } : Jvm.MethodName)) : Cond) ∈ LW := LW_mem (lw_in9 _ (List.mem_of_getElem? (i := 145) (by decide +kernel))) rfl
theorem wL_220 : ((Jvm.Cond.instanceMethod ({ cls := "QueuewardModel", name := "numbers", desc := "(II)I" } : Jvm.MethodName)) : Cond) ∈ LW := LW_mem (lw_in9 _ (List.mem_of_getElem? (i := 146) (by decide +kernel))) rfl
theorem wL_221 : ((Jvm.Cond.selects "QueuewardModel" ({ cls := "QueuewardModel", name := "numbers", desc := "(II)I" } : Jvm.MethodName) ({ cls := "QueuewardModel", name := "numbers", desc := "(II)I" } : Jvm.MethodName)) : Cond) ∈ LW := LW_mem (lw_in9 _ (List.mem_of_getElem? (i := 147) (by decide +kernel))) rfl
theorem wL_222 : ((Jvm.Cond.code ({ cls := "QueuewardModel", name := "numbers", desc := "(II)I" } : Jvm.MethodName) prog_14_method_104_code (4 : Nat) (Option.some Jvm.ClassFile.FieldType.int)) : Cond) ∈ LW := LW_mem (lw_in9 _ (List.mem_of_getElem? (i := 148) (by decide +kernel))) rfl
theorem wL_223 : ((Jvm.Cond.methodLink "QueuewardLaw" (241 : Nat) ({ cls := "QueuewardLaw", name := "growth", desc := "(LQueueward;I[J)I" } : Jvm.MethodName)) : Cond) ∈ LW := LW_mem (lw_in6 _ (List.mem_of_getElem? (i := 209) (by decide +kernel))) rfl
theorem wL_224 : ((Jvm.Cond.static ({ cls := "QueuewardLaw", name := "growth", desc := "(LQueueward;I[J)I" } : Jvm.MethodName)) : Cond) ∈ LW := LW_mem (lw_in6 _ (List.mem_of_getElem? (i := 210) (by decide +kernel))) rfl
theorem wL_225 : ((Jvm.Cond.codeWith ({ cls := "QueuewardLaw", name := "growth", desc := "(LQueueward;I[J)I" } : Jvm.MethodName) method_28_code (4 : Nat) (Option.some Jvm.ClassFile.FieldType.int) [((0 : Nat), (9 : Nat), (12 : Nat), (31 : Nat)), ((0 : Nat), (9 : Nat), (15 : Nat), (43 : Nat))]) : Cond) ∈ LW := LW_mem (lw_in6 _ (List.mem_of_getElem? (i := 211) (by decide +kernel))) rfl
theorem wL_226 : ((Jvm.Cond.methodLink "QueuewardLaw" (243 : Nat) ({ cls := "QueuewardModel", name := "growth", desc := "(I)I" } : Jvm.MethodName)) : Cond) ∈ LW := LW_mem (lw_in9 _ (List.mem_of_getElem? (i := 149) (by decide +kernel))) rfl
theorem wL_227 : ((Jvm.Cond.instanceMethod ({ cls := "QueuewardModel", name := "growth", desc := "(I)I" } : Jvm.MethodName)) : Cond) ∈ LW := LW_mem (lw_in9 _ (List.mem_of_getElem? (i := 150) (by decide +kernel))) rfl
theorem wL_228 : ((Jvm.Cond.selects "QueuewardModel" ({ cls := "QueuewardModel", name := "growth", desc := "(I)I" } : Jvm.MethodName) ({ cls := "QueuewardModel", name := "growth", desc := "(I)I" } : Jvm.MethodName)) : Cond) ∈ LW := LW_mem (lw_in9 _ (List.mem_of_getElem? (i := 151) (by decide +kernel))) rfl
theorem wL_229 : ((Jvm.Cond.code ({ cls := "QueuewardModel", name := "growth", desc := "(I)I" } : Jvm.MethodName) prog_14_method_106_code (2 : Nat) (Option.some Jvm.ClassFile.FieldType.int)) : Cond) ∈ LW := LW_mem (lw_in9 _ (List.mem_of_getElem? (i := 152) (by decide +kernel))) rfl
theorem wL_230 : ((Jvm.Cond.methodLink "QueuewardLaw" (244 : Nat) ({ cls := "QueuewardLaw", name := "closed", desc := "(LQueueward;II[J)I" } : Jvm.MethodName)) : Cond) ∈ LW := LW_mem (lw_in6 _ (List.mem_of_getElem? (i := 221) (by decide +kernel))) rfl
theorem wL_231 : ((Jvm.Cond.static ({ cls := "QueuewardLaw", name := "closed", desc := "(LQueueward;II[J)I" } : Jvm.MethodName)) : Cond) ∈ LW := LW_mem (lw_in6 _ (List.mem_of_getElem? (i := 222) (by decide +kernel))) rfl
theorem wL_232 : ((Jvm.Cond.codeWith ({ cls := "QueuewardLaw", name := "closed", desc := "(LQueueward;II[J)I" } : Jvm.MethodName) method_29_code (5 : Nat) (Option.some Jvm.ClassFile.FieldType.int) [((0 : Nat), (10 : Nat), (13 : Nat), (31 : Nat)), ((0 : Nat), (10 : Nat), (17 : Nat), (25 : Nat)), ((0 : Nat), (10 : Nat), (21 : Nat), (19 : Nat))]) : Cond) ∈ LW := LW_mem (lw_in6 _ (List.mem_of_getElem? (i := 223) (by decide +kernel))) rfl
theorem wL_233 : ((Jvm.Cond.methodLink "QueuewardLaw" (246 : Nat) ({ cls := "QueuewardModel", name := "closed", desc := "(II)I" } : Jvm.MethodName)) : Cond) ∈ LW := LW_mem (lw_in9 _ (List.mem_of_getElem? (i := 157) (by decide +kernel))) rfl
theorem wL_234 : ((Jvm.Cond.instanceMethod ({ cls := "QueuewardModel", name := "closed", desc := "(II)I" } : Jvm.MethodName)) : Cond) ∈ LW := LW_mem (lw_in9 _ (List.mem_of_getElem? (i := 158) (by decide +kernel))) rfl
theorem wL_235 : ((Jvm.Cond.selects "QueuewardModel" ({ cls := "QueuewardModel", name := "closed", desc := "(II)I" } : Jvm.MethodName) ({ cls := "QueuewardModel", name := "closed", desc := "(II)I" } : Jvm.MethodName)) : Cond) ∈ LW := LW_mem (lw_in9 _ (List.mem_of_getElem? (i := 159) (by decide +kernel))) rfl
theorem wL_236 : ((Jvm.Cond.code ({ cls := "QueuewardModel", name := "closed", desc := "(II)I" } : Jvm.MethodName) prog_14_method_112_code (4 : Nat) (Option.some Jvm.ClassFile.FieldType.int)) : Cond) ∈ LW := LW_mem (lw_in9 _ (List.mem_of_getElem? (i := 160) (by decide +kernel))) rfl
theorem wL_237 : ((Jvm.Cond.methodLink "QueuewardLaw" (247 : Nat) ({ cls := "QueuewardLaw", name := "envelope", desc := "(LQueueward;III[J)I" } : Jvm.MethodName)) : Cond) ∈ LW := LW_mem (lw_in6 _ (List.mem_of_getElem? (i := 234) (by decide +kernel))) rfl
theorem wL_238 : ((Jvm.Cond.static ({ cls := "QueuewardLaw", name := "envelope", desc := "(LQueueward;III[J)I" } : Jvm.MethodName)) : Cond) ∈ LW := LW_mem (lw_in6 _ (List.mem_of_getElem? (i := 235) (by decide +kernel))) rfl
theorem wL_239 : ((Jvm.Cond.codeWith ({ cls := "QueuewardLaw", name := "envelope", desc := "(LQueueward;III[J)I" } : Jvm.MethodName) method_30_code (6 : Nat) (Option.some Jvm.ClassFile.FieldType.int) [((0 : Nat), (12 : Nat), (15 : Nat), (25 : Nat))]) : Cond) ∈ LW := LW_mem (lw_in6 _ (List.mem_of_getElem? (i := 236) (by decide +kernel))) rfl
theorem wL_240 : ((Jvm.Cond.methodLink "QueuewardLaw" (249 : Nat) ({ cls := "QueuewardModel", name := "envelope", desc := "(III)I" } : Jvm.MethodName)) : Cond) ∈ LW := LW_mem (lw_in9 _ (List.mem_of_getElem? (i := 180) (by decide +kernel))) rfl
theorem wL_241 : ((Jvm.Cond.instanceMethod ({ cls := "QueuewardModel", name := "envelope", desc := "(III)I" } : Jvm.MethodName)) : Cond) ∈ LW := LW_mem (lw_in9 _ (List.mem_of_getElem? (i := 181) (by decide +kernel))) rfl
theorem wL_242 : ((Jvm.Cond.selects "QueuewardModel" ({ cls := "QueuewardModel", name := "envelope", desc := "(III)I" } : Jvm.MethodName) ({ cls := "QueuewardModel", name := "envelope", desc := "(III)I" } : Jvm.MethodName)) : Cond) ∈ LW := LW_mem (lw_in9 _ (List.mem_of_getElem? (i := 182) (by decide +kernel))) rfl
theorem wL_243 : ((Jvm.Cond.code ({ cls := "QueuewardModel", name := "envelope", desc := "(III)I" } : Jvm.MethodName) prog_14_method_113_code (5 : Nat) (Option.some Jvm.ClassFile.FieldType.int)) : Cond) ∈ LW := LW_mem (lw_in9 _ (List.mem_of_getElem? (i := 183) (by decide +kernel))) rfl
theorem wL_244 : ((Jvm.Cond.methodLink "QueuewardLaw" (250 : Nat) ({ cls := "QueuewardLaw", name := "server", desc := "(LQueueward;III[J)I" } : Jvm.MethodName)) : Cond) ∈ LW := LW_mem (lw_in7 _ (List.mem_of_getElem? (i := 6) (by decide +kernel))) rfl
theorem wL_245 : ((Jvm.Cond.static ({ cls := "QueuewardLaw", name := "server", desc := "(LQueueward;III[J)I" } : Jvm.MethodName)) : Cond) ∈ LW := LW_mem (lw_in7 _ (List.mem_of_getElem? (i := 7) (by decide +kernel))) rfl
theorem wL_246 : ((Jvm.Cond.codeWith ({ cls := "QueuewardLaw", name := "server", desc := "(LQueueward;III[J)I" } : Jvm.MethodName) method_31_code (6 : Nat) (Option.some Jvm.ClassFile.FieldType.int) [((0 : Nat), (12 : Nat), (15 : Nat), (25 : Nat)), ((0 : Nat), (12 : Nat), (19 : Nat), (19 : Nat))]) : Cond) ∈ LW := LW_mem (lw_in7 _ (List.mem_of_getElem? (i := 8) (by decide +kernel))) rfl
theorem wL_247 : ((Jvm.Cond.methodLink "QueuewardLaw" (252 : Nat) ({ cls := "QueuewardModel", name := "server", desc := "(III)I" } : Jvm.MethodName)) : Cond) ∈ LW := LW_mem (lw_in9 _ (List.mem_of_getElem? (i := 184) (by decide +kernel))) rfl
theorem wL_248 : ((Jvm.Cond.instanceMethod ({ cls := "QueuewardModel", name := "server", desc := "(III)I" } : Jvm.MethodName)) : Cond) ∈ LW := LW_mem (lw_in9 _ (List.mem_of_getElem? (i := 185) (by decide +kernel))) rfl
theorem wL_249 : ((Jvm.Cond.selects "QueuewardModel" ({ cls := "QueuewardModel", name := "server", desc := "(III)I" } : Jvm.MethodName) ({ cls := "QueuewardModel", name := "server", desc := "(III)I" } : Jvm.MethodName)) : Cond) ∈ LW := LW_mem (lw_in9 _ (List.mem_of_getElem? (i := 186) (by decide +kernel))) rfl
theorem wL_250 : ((Jvm.Cond.code ({ cls := "QueuewardModel", name := "server", desc := "(III)I" } : Jvm.MethodName) prog_14_method_114_code (4 : Nat) (Option.some Jvm.ClassFile.FieldType.int)) : Cond) ∈ LW := LW_mem (lw_in9 _ (List.mem_of_getElem? (i := 187) (by decide +kernel))) rfl
theorem wL_251 : ((Jvm.Cond.methodLink "QueuewardLaw" (253 : Nat) ({ cls := "QueuewardLaw", name := "bound", desc := "(LQueueward;Z[J)I" } : Jvm.MethodName)) : Cond) ∈ LW := LW_mem (lw_in7 _ (List.mem_of_getElem? (i := 19) (by decide +kernel))) rfl
theorem wL_252 : ((Jvm.Cond.static ({ cls := "QueuewardLaw", name := "bound", desc := "(LQueueward;Z[J)I" } : Jvm.MethodName)) : Cond) ∈ LW := LW_mem (lw_in7 _ (List.mem_of_getElem? (i := 20) (by decide +kernel))) rfl
theorem wL_253 : ((Jvm.Cond.codeWith ({ cls := "QueuewardLaw", name := "bound", desc := "(LQueueward;Z[J)I" } : Jvm.MethodName) method_32_code (4 : Nat) (Option.some Jvm.ClassFile.FieldType.int) [((0 : Nat), (9 : Nat), (12 : Nat), (43 : Nat))]) : Cond) ∈ LW := LW_mem (lw_in7 _ (List.mem_of_getElem? (i := 21) (by decide +kernel))) rfl
theorem wL_254 : ((Jvm.Cond.methodLink "QueuewardLaw" (255 : Nat) ({ cls := "QueuewardModel", name := "bound", desc := "(Z)I" } : Jvm.MethodName)) : Cond) ∈ LW := LW_mem (lw_in9 _ (List.mem_of_getElem? (i := 188) (by decide +kernel))) rfl
theorem wL_255 : ((Jvm.Cond.instanceMethod ({ cls := "QueuewardModel", name := "bound", desc := "(Z)I" } : Jvm.MethodName)) : Cond) ∈ LW := LW_mem (lw_in9 _ (List.mem_of_getElem? (i := 189) (by decide +kernel))) rfl
theorem wL_256 : ((Jvm.Cond.selects "QueuewardModel" ({ cls := "QueuewardModel", name := "bound", desc := "(Z)I" } : Jvm.MethodName) ({ cls := "QueuewardModel", name := "bound", desc := "(Z)I" } : Jvm.MethodName)) : Cond) ∈ LW := LW_mem (lw_in9 _ (List.mem_of_getElem? (i := 190) (by decide +kernel))) rfl
theorem wL_257 : ((Jvm.Cond.code ({ cls := "QueuewardModel", name := "bound", desc := "(Z)I" } : Jvm.MethodName) prog_14_method_115_code (5 : Nat) (Option.some Jvm.ClassFile.FieldType.int)) : Cond) ∈ LW := LW_mem (lw_in9 _ (List.mem_of_getElem? (i := 191) (by decide +kernel))) rfl
theorem wL_258 : ((Jvm.Cond.methodLink "QueuewardLaw" (256 : Nat) ({ cls := "Queueward", name := "fits", desc := "()Z" } : Jvm.MethodName)) : Cond) ∈ LW := LW_mem (lw_in3 _ (List.mem_of_getElem? (i := 164) (by decide +kernel))) rfl
theorem wL_259 : ((Jvm.Cond.instanceMethod ({ cls := "Queueward", name := "fits", desc := "()Z" } : Jvm.MethodName)) : Cond) ∈ LW := LW_mem (lw_in3 _ (List.mem_of_getElem? (i := 165) (by decide +kernel))) rfl
theorem wL_260 : ((Jvm.Cond.selects "Queueward" ({ cls := "Queueward", name := "fits", desc := "()Z" } : Jvm.MethodName) ({ cls := "Queueward", name := "fits", desc := "()Z" } : Jvm.MethodName)) : Cond) ∈ LW := LW_mem (lw_in3 _ (List.mem_of_getElem? (i := 166) (by decide +kernel))) rfl
theorem wL_261 : ((Jvm.Cond.code ({ cls := "Queueward", name := "fits", desc := "()Z" } : Jvm.MethodName) prog_1_method_42_code (1 : Nat) (Option.some Jvm.ClassFile.FieldType.boolean)) : Cond) ∈ LW := LW_mem (lw_in3 _ (List.mem_of_getElem? (i := 167) (by decide +kernel))) rfl
theorem wL_262 : ((Jvm.Cond.methodLink "QueuewardLaw" (260 : Nat) ({ cls := "QueuewardModel", name := "fits", desc := "()Z" } : Jvm.MethodName)) : Cond) ∈ LW := LW_mem (lw_in9 _ (List.mem_of_getElem? (i := 192) (by decide +kernel))) rfl
theorem wL_263 : ((Jvm.Cond.instanceMethod ({ cls := "QueuewardModel", name := "fits", desc := "()Z" } : Jvm.MethodName)) : Cond) ∈ LW := LW_mem (lw_in9 _ (List.mem_of_getElem? (i := 193) (by decide +kernel))) rfl
theorem wL_264 : ((Jvm.Cond.selects "QueuewardModel" ({ cls := "QueuewardModel", name := "fits", desc := "()Z" } : Jvm.MethodName) ({ cls := "QueuewardModel", name := "fits", desc := "()Z" } : Jvm.MethodName)) : Cond) ∈ LW := LW_mem (lw_in9 _ (List.mem_of_getElem? (i := 194) (by decide +kernel))) rfl
theorem wL_265 : ((Jvm.Cond.code ({ cls := "QueuewardModel", name := "fits", desc := "()Z" } : Jvm.MethodName) prog_14_method_117_code (1 : Nat) (Option.some Jvm.ClassFile.FieldType.boolean)) : Cond) ∈ LW := LW_mem (lw_in9 _ (List.mem_of_getElem? (i := 195) (by decide +kernel))) rfl
theorem wL_266 : ((Jvm.Cond.methodLink "QueuewardLaw" (261 : Nat) ({ cls := "QueuewardLaw", name := "option", desc := "(LQueueward;III[J)I" } : Jvm.MethodName)) : Cond) ∈ LW := LW_mem (lw_in7 _ (List.mem_of_getElem? (i := 41) (by decide +kernel))) rfl
theorem wL_267 : ((Jvm.Cond.static ({ cls := "QueuewardLaw", name := "option", desc := "(LQueueward;III[J)I" } : Jvm.MethodName)) : Cond) ∈ LW := LW_mem (lw_in7 _ (List.mem_of_getElem? (i := 42) (by decide +kernel))) rfl
theorem wL_268 : ((Jvm.Cond.codeWith ({ cls := "QueuewardLaw", name := "option", desc := "(LQueueward;III[J)I" } : Jvm.MethodName) method_33_code (6 : Nat) (Option.some Jvm.ClassFile.FieldType.int) [((0 : Nat), (12 : Nat), (15 : Nat), (25 : Nat))]) : Cond) ∈ LW := LW_mem (lw_in7 _ (List.mem_of_getElem? (i := 43) (by decide +kernel))) rfl
theorem wL_269 : ((Jvm.Cond.methodLink "QueuewardLaw" (263 : Nat) ({ cls := "QueuewardModel", name := "option", desc := "(III)I" } : Jvm.MethodName)) : Cond) ∈ LW := LW_mem (lw_in9 _ (List.mem_of_getElem? (i := 200) (by decide +kernel))) rfl
theorem wL_270 : ((Jvm.Cond.instanceMethod ({ cls := "QueuewardModel", name := "option", desc := "(III)I" } : Jvm.MethodName)) : Cond) ∈ LW := LW_mem (lw_in9 _ (List.mem_of_getElem? (i := 201) (by decide +kernel))) rfl
theorem wL_271 : ((Jvm.Cond.selects "QueuewardModel" ({ cls := "QueuewardModel", name := "option", desc := "(III)I" } : Jvm.MethodName) ({ cls := "QueuewardModel", name := "option", desc := "(III)I" } : Jvm.MethodName)) : Cond) ∈ LW := LW_mem (lw_in9 _ (List.mem_of_getElem? (i := 202) (by decide +kernel))) rfl
theorem wL_272 : ((Jvm.Cond.code ({ cls := "QueuewardModel", name := "option", desc := "(III)I" } : Jvm.MethodName) prog_14_method_118_code (5 : Nat) (Option.some Jvm.ClassFile.FieldType.int)) : Cond) ∈ LW := LW_mem (lw_in9 _ (List.mem_of_getElem? (i := 203) (by decide +kernel))) rfl
theorem wL_273 : ((Jvm.Cond.methodLink "QueuewardLaw" (264 : Nat) ({ cls := "QueuewardLaw", name := "split", desc := "(LQueueward;IIZ[J)I" } : Jvm.MethodName)) : Cond) ∈ LW := LW_mem (lw_in7 _ (List.mem_of_getElem? (i := 48) (by decide +kernel))) rfl
theorem wL_274 : ((Jvm.Cond.static ({ cls := "QueuewardLaw", name := "split", desc := "(LQueueward;IIZ[J)I" } : Jvm.MethodName)) : Cond) ∈ LW := LW_mem (lw_in7 _ (List.mem_of_getElem? (i := 49) (by decide +kernel))) rfl
theorem wL_275 : ((Jvm.Cond.codeWith ({ cls := "QueuewardLaw", name := "split", desc := "(LQueueward;IIZ[J)I" } : Jvm.MethodName) method_34_code (6 : Nat) (Option.some Jvm.ClassFile.FieldType.int) [((0 : Nat), (12 : Nat), (15 : Nat), (25 : Nat))]) : Cond) ∈ LW := LW_mem (lw_in7 _ (List.mem_of_getElem? (i := 50) (by decide +kernel))) rfl
theorem wL_276 : ((Jvm.Cond.methodLink "QueuewardLaw" (267 : Nat) ({ cls := "QueuewardModel", name := "split", desc := "(IIZ)I" } : Jvm.MethodName)) : Cond) ∈ LW := LW_mem (lw_in9 _ (List.mem_of_getElem? (i := 204) (by decide +kernel))) rfl
theorem wL_277 : ((Jvm.Cond.instanceMethod ({ cls := "QueuewardModel", name := "split", desc := "(IIZ)I" } : Jvm.MethodName)) : Cond) ∈ LW := LW_mem (lw_in9 _ (List.mem_of_getElem? (i := 205) (by decide +kernel))) rfl
theorem wL_278 : ((Jvm.Cond.selects "QueuewardModel" ({ cls := "QueuewardModel", name := "split", desc := "(IIZ)I" } : Jvm.MethodName) ({ cls := "QueuewardModel", name := "split", desc := "(IIZ)I" } : Jvm.MethodName)) : Cond) ∈ LW := LW_mem (lw_in9 _ (List.mem_of_getElem? (i := 206) (by decide +kernel))) rfl
theorem wL_279 : ((Jvm.Cond.code ({ cls := "QueuewardModel", name := "split", desc := "(IIZ)I" } : Jvm.MethodName) prog_14_method_121_code (5 : Nat) (Option.some Jvm.ClassFile.FieldType.int)) : Cond) ∈ LW := LW_mem (lw_in9 _ (List.mem_of_getElem? (i := 207) (by decide +kernel))) rfl
theorem wL_280 : ((Jvm.Cond.methodLink "QueuewardLaw" (268 : Nat) ({ cls := "QueuewardLaw", name := "price", desc := "(LQueueward;I[J)I" } : Jvm.MethodName)) : Cond) ∈ LW := LW_mem (lw_in7 _ (List.mem_of_getElem? (i := 56) (by decide +kernel))) rfl
theorem wL_281 : ((Jvm.Cond.static ({ cls := "QueuewardLaw", name := "price", desc := "(LQueueward;I[J)I" } : Jvm.MethodName)) : Cond) ∈ LW := LW_mem (lw_in7 _ (List.mem_of_getElem? (i := 57) (by decide +kernel))) rfl
theorem wL_282 : ((Jvm.Cond.codeWith ({ cls := "QueuewardLaw", name := "price", desc := "(LQueueward;I[J)I" } : Jvm.MethodName) method_35_code (4 : Nat) (Option.some Jvm.ClassFile.FieldType.int) [((0 : Nat), (9 : Nat), (12 : Nat), (25 : Nat))]) : Cond) ∈ LW := LW_mem (lw_in7 _ (List.mem_of_getElem? (i := 58) (by decide +kernel))) rfl
theorem wL_283 : ((Jvm.Cond.methodLink "QueuewardLaw" (270 : Nat) ({ cls := "QueuewardModel", name := "price", desc := "(I)I" } : Jvm.MethodName)) : Cond) ∈ LW := LW_mem (lw_in9 _ (List.mem_of_getElem? (i := 220) (by decide +kernel))) rfl
theorem wL_284 : ((Jvm.Cond.instanceMethod ({ cls := "QueuewardModel", name := "price", desc := "(I)I" } : Jvm.MethodName)) : Cond) ∈ LW := LW_mem (lw_in9 _ (List.mem_of_getElem? (i := 221) (by decide +kernel))) rfl
theorem wL_285 : ((Jvm.Cond.selects "QueuewardModel" ({ cls := "QueuewardModel", name := "price", desc := "(I)I" } : Jvm.MethodName) ({ cls := "QueuewardModel", name := "price", desc := "(I)I" } : Jvm.MethodName)) : Cond) ∈ LW := LW_mem (lw_in9 _ (List.mem_of_getElem? (i := 222) (by decide +kernel))) rfl
theorem wL_286 : ((Jvm.Cond.code ({ cls := "QueuewardModel", name := "price", desc := "(I)I" } : Jvm.MethodName) prog_14_method_122_code (4 : Nat) (Option.some Jvm.ClassFile.FieldType.int)) : Cond) ∈ LW := LW_mem (lw_in9 _ (List.mem_of_getElem? (i := 223) (by decide +kernel))) rfl
theorem wL_287 : ((Jvm.Cond.methodLink "QueuewardLaw" (271 : Nat) ({ cls := "Queueward", name := "mean", desc := "()D" } : Jvm.MethodName)) : Cond) ∈ LW := LW_mem (lw_in3 _ (List.mem_of_getElem? (i := 173) (by decide +kernel))) rfl
theorem wL_288 : ((Jvm.Cond.instanceMethod ({ cls := "Queueward", name := "mean", desc := "()D" } : Jvm.MethodName)) : Cond) ∈ LW := LW_mem (lw_in3 _ (List.mem_of_getElem? (i := 174) (by decide +kernel))) rfl
theorem wL_289 : ((Jvm.Cond.selects "Queueward" ({ cls := "Queueward", name := "mean", desc := "()D" } : Jvm.MethodName) ({ cls := "Queueward", name := "mean", desc := "()D" } : Jvm.MethodName)) : Cond) ∈ LW := LW_mem (lw_in3 _ (List.mem_of_getElem? (i := 175) (by decide +kernel))) rfl
theorem wL_290 : ((Jvm.Cond.code ({ cls := "Queueward", name := "mean", desc := "()D" } : Jvm.MethodName) prog_1_method_46_code (1 : Nat) (Option.some Jvm.ClassFile.FieldType.double)) : Cond) ∈ LW := LW_mem (lw_in3 _ (List.mem_of_getElem? (i := 176) (by decide +kernel))) rfl
theorem wL_291 : ((Jvm.Cond.methodLink "QueuewardLaw" (275 : Nat) ({ cls := "QueuewardModel", name := "mean", desc := "()D" } : Jvm.MethodName)) : Cond) ∈ LW := LW_mem (lw_in9 _ (List.mem_of_getElem? (i := 224) (by decide +kernel))) rfl
theorem wL_292 : ((Jvm.Cond.instanceMethod ({ cls := "QueuewardModel", name := "mean", desc := "()D" } : Jvm.MethodName)) : Cond) ∈ LW := LW_mem (lw_in9 _ (List.mem_of_getElem? (i := 225) (by decide +kernel))) rfl
theorem wL_293 : ((Jvm.Cond.selects "QueuewardModel" ({ cls := "QueuewardModel", name := "mean", desc := "()D" } : Jvm.MethodName) ({ cls := "QueuewardModel", name := "mean", desc := "()D" } : Jvm.MethodName)) : Cond) ∈ LW := LW_mem (lw_in9 _ (List.mem_of_getElem? (i := 226) (by decide +kernel))) rfl
theorem wL_294 : ((Jvm.Cond.code ({ cls := "QueuewardModel", name := "mean", desc := "()D" } : Jvm.MethodName) prog_14_method_123_code (1 : Nat) (Option.some Jvm.ClassFile.FieldType.double)) : Cond) ∈ LW := LW_mem (lw_in9 _ (List.mem_of_getElem? (i := 227) (by decide +kernel))) rfl
theorem wL_295 : ((Jvm.Cond.methodLink "QueuewardLaw" (276 : Nat) ({ cls := "Queueward", name := "doneShare", desc := "()F" } : Jvm.MethodName)) : Cond) ∈ LW := LW_mem (lw_in3 _ (List.mem_of_getElem? (i := 177) (by decide +kernel))) rfl
theorem wL_296 : ((Jvm.Cond.instanceMethod ({ cls := "Queueward", name := "doneShare", desc := "()F" } : Jvm.MethodName)) : Cond) ∈ LW := LW_mem (lw_in3 _ (List.mem_of_getElem? (i := 178) (by decide +kernel))) rfl
theorem wL_297 : ((Jvm.Cond.selects "Queueward" ({ cls := "Queueward", name := "doneShare", desc := "()F" } : Jvm.MethodName) ({ cls := "Queueward", name := "doneShare", desc := "()F" } : Jvm.MethodName)) : Cond) ∈ LW := LW_mem (lw_in3 _ (List.mem_of_getElem? (i := 179) (by decide +kernel))) rfl
theorem wL_298 : ((Jvm.Cond.code ({ cls := "Queueward", name := "doneShare", desc := "()F" } : Jvm.MethodName) prog_1_method_47_code (3 : Nat) (Option.some Jvm.ClassFile.FieldType.float)) : Cond) ∈ LW := LW_mem (lw_in3 _ (List.mem_of_getElem? (i := 180) (by decide +kernel))) rfl
theorem wL_299 : ((Jvm.Cond.methodLink "QueuewardLaw" (280 : Nat) ({ cls := "QueuewardModel", name := "doneShare", desc := "()F" } : Jvm.MethodName)) : Cond) ∈ LW := LW_mem (lw_in9 _ (List.mem_of_getElem? (i := 228) (by decide +kernel))) rfl
theorem wL_300 : ((Jvm.Cond.instanceMethod ({ cls := "QueuewardModel", name := "doneShare", desc := "()F" } : Jvm.MethodName)) : Cond) ∈ LW := LW_mem (lw_in9 _ (List.mem_of_getElem? (i := 229) (by decide +kernel))) rfl
theorem wL_301 : ((Jvm.Cond.selects "QueuewardModel" ({ cls := "QueuewardModel", name := "doneShare", desc := "()F" } : Jvm.MethodName) ({ cls := "QueuewardModel", name := "doneShare", desc := "()F" } : Jvm.MethodName)) : Cond) ∈ LW := LW_mem (lw_in9 _ (List.mem_of_getElem? (i := 230) (by decide +kernel))) rfl
theorem wL_302 : ((Jvm.Cond.code ({ cls := "QueuewardModel", name := "doneShare", desc := "()F" } : Jvm.MethodName) prog_14_method_124_code (4 : Nat) (Option.some Jvm.ClassFile.FieldType.float)) : Cond) ∈ LW := LW_mem (lw_in9 _ (List.mem_of_getElem? (i := 231) (by decide +kernel))) rfl
theorem wL_303 : ((Jvm.Cond.methodLink "QueuewardLaw" (281 : Nat) ({ cls := "Queueward", name := "errors", desc := "()I" } : Jvm.MethodName)) : Cond) ∈ LW := LW_mem (lw_in3 _ (List.mem_of_getElem? (i := 181) (by decide +kernel))) rfl
theorem wL_304 : ((Jvm.Cond.instanceMethod ({ cls := "Queueward", name := "errors", desc := "()I" } : Jvm.MethodName)) : Cond) ∈ LW := LW_mem (lw_in3 _ (List.mem_of_getElem? (i := 182) (by decide +kernel))) rfl
theorem wL_305 : ((Jvm.Cond.selects "Queueward" ({ cls := "Queueward", name := "errors", desc := "()I" } : Jvm.MethodName) ({ cls := "Queueward", name := "errors", desc := "()I" } : Jvm.MethodName)) : Cond) ∈ LW := LW_mem (lw_in3 _ (List.mem_of_getElem? (i := 183) (by decide +kernel))) rfl
theorem wL_306 : ((Jvm.Cond.code ({ cls := "Queueward", name := "errors", desc := "()I" } : Jvm.MethodName) prog_1_method_48_code (2 : Nat) (Option.some Jvm.ClassFile.FieldType.int)) : Cond) ∈ LW := LW_mem (lw_in3 _ (List.mem_of_getElem? (i := 184) (by decide +kernel))) rfl
theorem wL_307 : ((Jvm.Cond.methodLink "QueuewardLaw" (284 : Nat) ({ cls := "QueuewardModel", name := "errors", desc := "()I" } : Jvm.MethodName)) : Cond) ∈ LW := LW_mem (lw_in9 _ (List.mem_of_getElem? (i := 232) (by decide +kernel))) rfl
theorem wL_308 : ((Jvm.Cond.instanceMethod ({ cls := "QueuewardModel", name := "errors", desc := "()I" } : Jvm.MethodName)) : Cond) ∈ LW := LW_mem (lw_in9 _ (List.mem_of_getElem? (i := 233) (by decide +kernel))) rfl
theorem wL_309 : ((Jvm.Cond.selects "QueuewardModel" ({ cls := "QueuewardModel", name := "errors", desc := "()I" } : Jvm.MethodName) ({ cls := "QueuewardModel", name := "errors", desc := "()I" } : Jvm.MethodName)) : Cond) ∈ LW := LW_mem (lw_in9 _ (List.mem_of_getElem? (i := 234) (by decide +kernel))) rfl
theorem wL_310 : ((Jvm.Cond.code ({ cls := "QueuewardModel", name := "errors", desc := "()I" } : Jvm.MethodName) prog_14_method_132_code (2 : Nat) (Option.some Jvm.ClassFile.FieldType.int)) : Cond) ∈ LW := LW_mem (lw_in9 _ (List.mem_of_getElem? (i := 235) (by decide +kernel))) rfl
set_option maxHeartbeats 4000000 in
set_option maxRecDepth 100000 in
theorem cs_0 {p : Program} {l : Launch} {e : Env} {s : State} {m : MethodId} {args : Array Value} {below : List Frame} {meth : Method} {c : Code} {H : Heap} {locs : List Loc} {cells slots : Nat} {Q : State → Prop} {ls : Array Slot} {D : va_G} {cA : Nat → ClassId} {sg : Nat → Nat} {b L i : Nat} {xs : Nat → Int32} {M : Mem} {z : Int64} (C : LC p l s m args c sg cA D b L xs) (hi : i + 5 ≤ L) (hc : cells + 8 ≤ 603072) (hs : slots + 48 ≤ 7215210) (hL : LWS cA D s.heap.size M z H) (hS : va_S (Al s.heap.size) s.heap H locs) (hl : lv_has ls 9 (LV b s.heap.size i))
    (kk : ∀ (M1 : Mem) (z1 : Int64) (H1 : Heap) (locs1 : List Loc) (ls1 : Array Slot), LWS cA D s.heap.size M1 z1 H1 → va_S (Al s.heap.size) s.heap H1 locs1 → lv_has ls1 9 (LV b s.heap.size i) → W p l e room_1 s m args below meth c H1 locs1 (cells + 8) (slots + 48) Q (F0 m 2729 ls1 [])) : W p l e room_1 s m args below meth c H locs cells slots Q (F0 m 220 ls []) := by
  obtain ⟨htr, hx, hb, hml, hown, hts, hX, hbl, hfix, hnc, hLL⟩ := id C
  obtain ⟨hW, hI, hO⟩ := hL
  refine lv_aload_n hx hb dL_law_220 rfl (lv_at hl 2 rfl) ?_
  refine l_arg C hS 1 (lv_at hl 1 rfl) (lv_at hl 0 rfl) hi (by decide) dL_law_221 dL_law_222 dL_law_224 dL_law_225 dL_law_226 ?_
  refine l_bool hx hb (sc_r xs (i + 1)) dL_law_227 dL_law_230 dL_law_231 dL_law_234 ?_
  refine lv_aload_n hx hb dL_law_235 rfl (lv_at hl 4 rfl) ?_
  have hca := (h_result (bI_r (sc xs (i + 1)))) M hI
  refine va_calli (vx_runSW (As := [.ref (rho s.heap.size 149), .int (Int32.ofInt (bI (sc xs (i + 1)))), .ref (s.heap.size + 176)]) (rest := []) ⟨hx, hb, hml, hown, hts⟩ (hp_result (sg := sg) (cA := cA) (D := D) (sz0 := s.heap.size) (z := z) htr hca (fun e9 M9 q9 => agr_es q9)) (vx_cwSW 3 hts (wsH_good wL_5 wL_6 wL_7 wL_8) rfl rfl rfl (by decide +kernel) ⟨Nat.le_of_ble_eq_true rfl, Nat.le_of_ble_eq_true rfl⟩) ⟨lPre_blind, fun U hU hW9 => ⟨rfl, ⟨(by rw [hU]; exact hW.1), hW.2.1, (by rw [hU]; exact hW.2.2), hfix.warm hW9 (fun q q1 q2 => by rw [hU]; exact hS.2.1 q q1 (fun h => absurd h (Nat.not_le.mpr q1)))⟩, (by rw [hU]; exact hO), hnc.moved hW9.alike⟩⟩ rfl rfl hl.1 rfl (lv_room (Nat.le_of_ble_eq_true rfl)) dL_law_236 ⟨by show cells + 1 ≤ 603072; omega, by show slots + 6 ≤ 7215210; omega⟩) hS (fun q _ h => h) (fun q h => h) (fun r u t H1 locs1 ht hal hp hB hz1 hfr hS => ?_)
  obtain ⟨r0, hq, hrel⟩ := hp.rel
  obtain ⟨hW, hO⟩ := hB
  rw [ht] at hW hO
  refine lv_istore (lv' := [(5, .int r), (4, .int (Int32.ofInt (i : Int))), (0, .ref b), (1, .ref (rho s.heap.size 149)), (2, .ref (rho s.heap.size 175)), (3, .ref (s.heap.size + 176))]) hx hb dL_law_239 hl (by decide) rfl (fun ls hl => ?_)
  refine lv_aload_n hx hb dL_law_241 rfl (lv_at hl 4 rfl) ?_
  refine l_arg C hS 1 (lv_at hl 2 rfl) (lv_at hl 1 rfl) hi (by decide) dL_law_242 dL_law_243 dL_law_245 dL_law_246 dL_law_247 ?_
  refine l_bool hx hb (sc_r xs (i + 1)) dL_law_248 dL_law_251 dL_law_252 dL_law_255 ?_
  have hM := snd (ρ := rho s.heap.size) (sg := sg) (cA := cA) (D := D) (sz0 := s.heap.size) htr 10 cM_result _ _ _ hq nM_result rfl
  have hrv := va_recv hfix.1 hW.1 (gCl_at 12 (by decide)) (wWs_ob (show wOb 175 = 12 + 1 from by decide +kernel))
  refine vx_calll (vx_runV (As := [.int (Int32.ofInt (bI (sc xs (i + 1))))]) (rest := []) ⟨hx, hb, hml, hown, hts⟩ hM (cwV 1 hts (wsV_good wL_9 wL_10 wL_11 wL_3 wL_12) rfl rfl rfl (by decide +kernel) ⟨Nat.le_of_ble_eq_true rfl, Nat.le_of_ble_eq_true rfl⟩) ⟨wPic_blind, hrv, fun U hU hW9 => ⟨rfl, (by rw [hU]; exact hW.1), hW.2.1, (by rw [hU]; exact hW.2.2), hfix.warm hW9 (fun q q1 q2 => by rw [hU]; exact hS.2.1 q q1 (fun h => absurd h (Nat.not_le.mpr q1)))⟩⟩ rfl rfl hl.1 rfl (lv_room (Nat.le_of_ble_eq_true rfl)) dL_law_256 ⟨by show cells + 1 + 0 ≤ 603072; omega, by show slots + 6 + 6 * 0 ≤ 7215210; omega⟩) hS (fun q _ h => h.1) (fun q h => h.1) (fun q _ h => h.1) (fun E ce q9 u2 t2 H2 locs2 ht2 hal2 hp2 => absurd hp2.2 agr.no) (fun r2 u2 t2 H2 locs2 ht2 hal2 hp2 hB2 hz2 hfr2 hS => ?_)
  obtain ⟨y, rfl, hI, hag⟩ := hp2
  rw [ht2] at hB2
  have hO := hO.kept hfr2
  refine W.widen (k := cells + 8) (n := slots + 48) (by show cells + 1 + 0 ≤ cells + 8; omega) (by show slots + 6 + 6 * 0 ≤ slots + 48; omega) ?_
  refine lv_lstore (lv' := [(6, .long (Int64.ofInt y)), (5, .int r), (4, .int (Int32.ofInt (i : Int))), (0, .ref b), (1, .ref (rho s.heap.size 149)), (2, .ref (rho s.heap.size 175)), (3, .ref (s.heap.size + 176))]) hx hb dL_law_259 hl (by decide) rfl (fun ls hl => ?_)
  exact l_tailL C ⟨hB2, hI, hO⟩ hS (by decide) (by decide) hrel hag hl.1 (lv_at hl 5 rfl) (lv_at hl 6 rfl) (lv_at hl 1 rfl) (lv_at hl 0 rfl) dL_law_261 dL_law_262 dL_law_265 dL_law_267 dL_law_272 dL_law_274 dL_law_277 dL_law_278 dL_law_279 dL_law_280 dL_law_282 dL_law_283 dL_law_288 (by decide) (by omega) (by omega) (fun H3 locs3 h3 hS3 => kk u2 _ H3 locs3 ls h3 hS3 (lv_sub hl [2, 3, 4, 5, 6] rfl))
set_option maxHeartbeats 4000000 in
set_option maxRecDepth 100000 in
theorem cs_1 {p : Program} {l : Launch} {e : Env} {s : State} {m : MethodId} {args : Array Value} {below : List Frame} {meth : Method} {c : Code} {H : Heap} {locs : List Loc} {cells slots : Nat} {Q : State → Prop} {ls : Array Slot} {D : va_G} {cA : Nat → ClassId} {sg : Nat → Nat} {b L i : Nat} {xs : Nat → Int32} {M : Mem} {z : Int64} (C : LC p l s m args c sg cA D b L xs) (hi : i + 5 ≤ L) (hc : cells + 8 ≤ 603072) (hs : slots + 48 ≤ 7215210) (hL : LWS cA D s.heap.size M z H) (hS : va_S (Al s.heap.size) s.heap H locs) (hl : lv_has ls 9 (LV b s.heap.size i))
    (kk : ∀ (M1 : Mem) (z1 : Int64) (H1 : Heap) (locs1 : List Loc) (ls1 : Array Slot), LWS cA D s.heap.size M1 z1 H1 → va_S (Al s.heap.size) s.heap H1 locs1 → lv_has ls1 9 (LV b s.heap.size i) → W p l e room_1 s m args below meth c H1 locs1 (cells + 8) (slots + 48) Q (F0 m 2729 ls1 [])) : W p l e room_1 s m args below meth c H locs cells slots Q (F0 m 291 ls []) := by
  obtain ⟨htr, hx, hb, hml, hown, hts, hX, hbl, hfix, hnc, hLL⟩ := id C
  obtain ⟨hW, hI, hO⟩ := hL
  refine lv_aload_n hx hb dL_law_291 rfl (lv_at hl 2 rfl) ?_
  refine lv_aload_n hx hb dL_law_292 rfl (lv_at hl 4 rfl) ?_
  have hca := h_write M hI
  refine va_calli (vx_runSW (As := [.ref (rho s.heap.size 149), .ref (s.heap.size + 176)]) (rest := []) ⟨hx, hb, hml, hown, hts⟩ (hp_write (sg := sg) (cA := cA) (D := D) (sz0 := s.heap.size) (z := z) htr hca (fun e9 M9 q9 => agr_es q9)) (vx_cwSW 2 hts (wsH_good wL_13 wL_14 wL_7 wL_15) rfl rfl rfl (by decide +kernel) ⟨Nat.le_of_ble_eq_true rfl, Nat.le_of_ble_eq_true rfl⟩) ⟨lPre_blind, fun U hU hW9 => ⟨rfl, ⟨(by rw [hU]; exact hW.1), hW.2.1, (by rw [hU]; exact hW.2.2), hfix.warm hW9 (fun q q1 q2 => by rw [hU]; exact hS.2.1 q q1 (fun h => absurd h (Nat.not_le.mpr q1)))⟩, (by rw [hU]; exact hO), hnc.moved hW9.alike⟩⟩ rfl rfl hl.1 rfl (lv_room (Nat.le_of_ble_eq_true rfl)) dL_law_293 ⟨by show cells + 1 ≤ 603072; omega, by show slots + 6 ≤ 7215210; omega⟩) hS (fun q _ h => h) (fun q h => h) (fun r u t H1 locs1 ht hal hp hB hz1 hfr hS => ?_)
  obtain ⟨r0, hq, hrel⟩ := hp.rel
  obtain ⟨hW, hO⟩ := hB
  rw [ht] at hW hO
  refine lv_istore (lv' := [(5, .int r), (4, .int (Int32.ofInt (i : Int))), (0, .ref b), (1, .ref (rho s.heap.size 149)), (2, .ref (rho s.heap.size 175)), (3, .ref (s.heap.size + 176))]) hx hb dL_law_296 hl (by decide) rfl (fun ls hl => ?_)
  refine lv_aload_n hx hb dL_law_298 rfl (lv_at hl 4 rfl) ?_
  have hM := snd (ρ := rho s.heap.size) (sg := sg) (cA := cA) (D := D) (sz0 := s.heap.size) htr 10 cM_write _ _ _ hq nM_write rfl
  have hrv := va_recv hfix.1 hW.1 (gCl_at 12 (by decide)) (wWs_ob (show wOb 175 = 12 + 1 from by decide +kernel))
  refine vx_calli (vx_runV (As := []) (rest := []) ⟨hx, hb, hml, hown, hts⟩ hM (cwV 0 hts (wsV_good wL_16 wL_17 wL_18 wL_3 wL_19) rfl rfl rfl (by decide +kernel) ⟨Nat.le_of_ble_eq_true rfl, Nat.le_of_ble_eq_true rfl⟩) ⟨wPic_blind, hrv, fun U hU hW9 => ⟨rfl, (by rw [hU]; exact hW.1), hW.2.1, (by rw [hU]; exact hW.2.2), hfix.warm hW9 (fun q q1 q2 => by rw [hU]; exact hS.2.1 q q1 (fun h => absurd h (Nat.not_le.mpr q1)))⟩⟩ rfl rfl hl.1 rfl (lv_room (Nat.le_of_ble_eq_true rfl)) dL_law_299 ⟨by show cells + 1 + 0 ≤ 603072; omega, by show slots + 6 + 6 * 0 ≤ 7215210; omega⟩) hS (fun q _ h => h.1) (fun q h => h.1) (fun q _ h => h.1) (fun E ce q9 u2 t2 H2 locs2 ht2 hal2 hp2 => absurd hp2.2 agr.no) (fun r2 u2 t2 H2 locs2 ht2 hal2 hp2 hB2 hz2 hfr2 hS => ?_)
  obtain ⟨y, rfl, hI, hag⟩ := hp2
  rw [ht2] at hB2
  have hO := hO.kept hfr2
  refine W.widen (k := cells + 8) (n := slots + 48) (by show cells + 1 + 0 ≤ cells + 8; omega) (by show slots + 6 + 6 * 0 ≤ slots + 48; omega) ?_
  refine lv_istore (lv' := [(6, .int (Int32.ofInt y)), (5, .int r), (4, .int (Int32.ofInt (i : Int))), (0, .ref b), (1, .ref (rho s.heap.size 149)), (2, .ref (rho s.heap.size 175)), (3, .ref (s.heap.size + 176))]) hx hb dL_law_302 hl (by decide) rfl (fun ls hl => ?_)
  exact l_tailI C ⟨hB2, hI, hO⟩ hS (by decide) (by decide) hrel hag hl.1 (lv_at hl 5 rfl) (lv_at hl 6 rfl) (lv_at hl 1 rfl) (lv_at hl 0 rfl) dL_law_304 dL_law_305 dL_law_308 dL_law_310 dL_law_315 dL_law_317 dL_law_320 dL_law_321 dL_law_322 dL_law_323 dL_law_325 dL_law_326 dL_law_327 dL_law_332 (by decide) (by omega) (by omega) (fun H3 locs3 h3 hS3 => kk u2 _ H3 locs3 ls h3 hS3 (lv_sub hl [2, 3, 4, 5, 6] rfl))
set_option maxHeartbeats 4000000 in
set_option maxRecDepth 100000 in
theorem cs_2 {p : Program} {l : Launch} {e : Env} {s : State} {m : MethodId} {args : Array Value} {below : List Frame} {meth : Method} {c : Code} {H : Heap} {locs : List Loc} {cells slots : Nat} {Q : State → Prop} {ls : Array Slot} {D : va_G} {cA : Nat → ClassId} {sg : Nat → Nat} {b L i : Nat} {xs : Nat → Int32} {M : Mem} {z : Int64} (C : LC p l s m args c sg cA D b L xs) (hi : i + 5 ≤ L) (hc : cells + 8 ≤ 603072) (hs : slots + 48 ≤ 7215210) (hL : LWS cA D s.heap.size M z H) (hS : va_S (Al s.heap.size) s.heap H locs) (hl : lv_has ls 9 (LV b s.heap.size i))
    (kk : ∀ (M1 : Mem) (z1 : Int64) (H1 : Heap) (locs1 : List Loc) (ls1 : Array Slot), LWS cA D s.heap.size M1 z1 H1 → va_S (Al s.heap.size) s.heap H1 locs1 → lv_has ls1 9 (LV b s.heap.size i) → W p l e room_1 s m args below meth c H1 locs1 (cells + 8) (slots + 48) Q (F0 m 2729 ls1 [])) : W p l e room_1 s m args below meth c H locs cells slots Q (F0 m 335 ls []) := by
  obtain ⟨htr, hx, hb, hml, hown, hts, hX, hbl, hfix, hnc, hLL⟩ := id C
  obtain ⟨hW, hI, hO⟩ := hL
  refine lv_aload_n hx hb dL_law_335 rfl (lv_at hl 2 rfl) ?_
  refine l_arg C hS 1 (lv_at hl 1 rfl) (lv_at hl 0 rfl) hi (by decide) dL_law_336 dL_law_337 dL_law_339 dL_law_340 dL_law_341 ?_
  refine lv_i2l hx hb dL_law_342 rfl ?_
  refine lv_bipush (v := 32) hx hb dL_law_343 (by decide) ?_
  refine lv_lshl hx hb dL_law_345 rfl ?_
  refine l_arg C hS 2 (lv_at hl 1 rfl) (lv_at hl 0 rfl) hi (by decide) dL_law_346 dL_law_347 dL_law_349 dL_law_350 dL_law_351 ?_
  refine lv_i2l hx hb dL_law_352 rfl ?_
  refine lv_ldc2 hx hb hown (hts _ wL_20) dL_law_353 ?_
  refine lv_land hx hb dL_law_356 ?_
  refine lv_lor hx hb dL_law_357 ?_
  refine lv_topl (fun x9 ex9 => ?_)
  obtain ⟨j9, rfl⟩ : ∃ j9 : Int, x9 = Int64.ofInt j9 := ⟨x9.toInt, (Int64.ofInt_toInt _).symm⟩
  refine lv_aload_n hx hb dL_law_358 rfl (lv_at hl 4 rfl) ?_
  have hca := (h_type (j := j9)) M hI
  refine va_calli (vx_runSW (As := [.ref (rho s.heap.size 149), .long (Int64.ofInt j9), .ref (s.heap.size + 176)]) (rest := []) ⟨hx, hb, hml, hown, hts⟩ (hp_type (sg := sg) (cA := cA) (D := D) (sz0 := s.heap.size) (z := z) htr hca (fun e9 M9 q9 => agr_es q9)) (vx_cwSW 3 hts (wsH_good wL_21 wL_22 wL_7 wL_23) rfl rfl rfl (by decide +kernel) ⟨Nat.le_of_ble_eq_true rfl, Nat.le_of_ble_eq_true rfl⟩) ⟨lPre_blind, fun U hU hW9 => ⟨rfl, ⟨(by rw [hU]; exact hW.1), hW.2.1, (by rw [hU]; exact hW.2.2), hfix.warm hW9 (fun q q1 q2 => by rw [hU]; exact hS.2.1 q q1 (fun h => absurd h (Nat.not_le.mpr q1)))⟩, (by rw [hU]; exact hO), hnc.moved hW9.alike⟩⟩ rfl rfl hl.1 rfl (lv_room (Nat.le_of_ble_eq_true rfl)) dL_law_359 ⟨by show cells + 1 ≤ 603072; omega, by show slots + 6 ≤ 7215210; omega⟩) hS (fun q _ h => h) (fun q h => h) (fun r u t H1 locs1 ht hal hp hB hz1 hfr hS => ?_)
  obtain ⟨r0, hq, hrel⟩ := hp.rel
  obtain ⟨hW, hO⟩ := hB
  rw [ht] at hW hO
  refine lv_istore (lv' := [(5, .int r), (4, .int (Int32.ofInt (i : Int))), (0, .ref b), (1, .ref (rho s.heap.size 149)), (2, .ref (rho s.heap.size 175)), (3, .ref (s.heap.size + 176))]) hx hb dL_law_362 hl (by decide) rfl (fun ls hl => ?_)
  refine lv_aload_n hx hb dL_law_364 rfl (lv_at hl 4 rfl) ?_
  refine l_arg C hS 1 (lv_at hl 2 rfl) (lv_at hl 1 rfl) hi (by decide) dL_law_365 dL_law_366 dL_law_368 dL_law_369 dL_law_370 ?_
  refine lv_i2l hx hb dL_law_371 rfl ?_
  refine lv_bipush (v := 32) hx hb dL_law_372 (by decide) ?_
  refine lv_lshl hx hb dL_law_374 rfl ?_
  refine l_arg C hS 2 (lv_at hl 2 rfl) (lv_at hl 1 rfl) hi (by decide) dL_law_375 dL_law_376 dL_law_378 dL_law_379 dL_law_380 ?_
  refine lv_i2l hx hb dL_law_381 rfl ?_
  refine lv_ldc2 hx hb hown (hts _ wL_20) dL_law_382 ?_
  refine lv_land hx hb dL_law_385 ?_
  refine lv_lor hx hb dL_law_386 ?_
  refine lv_topl (fun x8 ex8 => ?_)
  have e98 : x8 = Int64.ofInt j9 := ex8.trans ex9.symm
  subst e98
  have hM := snd (ρ := rho s.heap.size) (sg := sg) (cA := cA) (D := D) (sz0 := s.heap.size) htr 10 cM_type _ _ _ hq nM_type rfl
  have hrv := va_recv hfix.1 hW.1 (gCl_at 12 (by decide)) (wWs_ob (show wOb 175 = 12 + 1 from by decide +kernel))
  refine vx_calli (vx_runV (As := [.long (Int64.ofInt j9)]) (rest := []) ⟨hx, hb, hml, hown, hts⟩ hM (cwV 1 hts (wsV_good wL_24 wL_25 wL_26 wL_3 wL_27) rfl rfl rfl (by decide +kernel) ⟨Nat.le_of_ble_eq_true rfl, Nat.le_of_ble_eq_true rfl⟩) ⟨wPic_blind, hrv, fun U hU hW9 => ⟨rfl, (by rw [hU]; exact hW.1), hW.2.1, (by rw [hU]; exact hW.2.2), hfix.warm hW9 (fun q q1 q2 => by rw [hU]; exact hS.2.1 q q1 (fun h => absurd h (Nat.not_le.mpr q1)))⟩⟩ rfl rfl hl.1 rfl (lv_room (Nat.le_of_ble_eq_true rfl)) dL_law_387 ⟨by show cells + 1 + 0 ≤ 603072; omega, by show slots + 6 + 6 * 0 ≤ 7215210; omega⟩) hS (fun q _ h => h.1) (fun q h => h.1) (fun q _ h => h.1) (fun E ce q9 u2 t2 H2 locs2 ht2 hal2 hp2 => absurd hp2.2 agr.no) (fun r2 u2 t2 H2 locs2 ht2 hal2 hp2 hB2 hz2 hfr2 hS => ?_)
  obtain ⟨y, rfl, hI, hag⟩ := hp2
  rw [ht2] at hB2
  have hO := hO.kept hfr2
  refine W.widen (k := cells + 8) (n := slots + 48) (by show cells + 1 + 0 ≤ cells + 8; omega) (by show slots + 6 + 6 * 0 ≤ slots + 48; omega) ?_
  refine lv_istore (lv' := [(6, .int (Int32.ofInt y)), (5, .int r), (4, .int (Int32.ofInt (i : Int))), (0, .ref b), (1, .ref (rho s.heap.size 149)), (2, .ref (rho s.heap.size 175)), (3, .ref (s.heap.size + 176))]) hx hb dL_law_390 hl (by decide) rfl (fun ls hl => ?_)
  exact l_tailI C ⟨hB2, hI, hO⟩ hS (by decide) (by decide) hrel hag hl.1 (lv_at hl 5 rfl) (lv_at hl 6 rfl) (lv_at hl 1 rfl) (lv_at hl 0 rfl) dL_law_392 dL_law_393 dL_law_396 dL_law_398 dL_law_403 dL_law_405 dL_law_408 dL_law_409 dL_law_410 dL_law_411 dL_law_413 dL_law_414 dL_law_415 dL_law_420 (by decide) (by omega) (by omega) (fun H3 locs3 h3 hS3 => kk u2 _ H3 locs3 ls h3 hS3 (lv_sub hl [2, 3, 4, 5, 6] rfl))
set_option maxHeartbeats 4000000 in
set_option maxRecDepth 100000 in
theorem cs_3 {p : Program} {l : Launch} {e : Env} {s : State} {m : MethodId} {args : Array Value} {below : List Frame} {meth : Method} {c : Code} {H : Heap} {locs : List Loc} {cells slots : Nat} {Q : State → Prop} {ls : Array Slot} {D : va_G} {cA : Nat → ClassId} {sg : Nat → Nat} {b L i : Nat} {xs : Nat → Int32} {M : Mem} {z : Int64} (C : LC p l s m args c sg cA D b L xs) (hi : i + 5 ≤ L) (hc : cells + 8 ≤ 603072) (hs : slots + 48 ≤ 7215210) (hL : LWS cA D s.heap.size M z H) (hS : va_S (Al s.heap.size) s.heap H locs) (hl : lv_has ls 9 (LV b s.heap.size i))
    (kk : ∀ (M1 : Mem) (z1 : Int64) (H1 : Heap) (locs1 : List Loc) (ls1 : Array Slot), LWS cA D s.heap.size M1 z1 H1 → va_S (Al s.heap.size) s.heap H1 locs1 → lv_has ls1 9 (LV b s.heap.size i) → W p l e room_1 s m args below meth c H1 locs1 (cells + 8) (slots + 48) Q (F0 m 2729 ls1 [])) : W p l e room_1 s m args below meth c H locs cells slots Q (F0 m 423 ls []) := by
  obtain ⟨htr, hx, hb, hml, hown, hts, hX, hbl, hfix, hnc, hLL⟩ := id C
  obtain ⟨hW, hI, hO⟩ := hL
  refine lv_aload_n hx hb dL_law_423 rfl (lv_at hl 2 rfl) ?_
  have hca := h_wipe M hI
  have hM := snd (ρ := rho s.heap.size) (sg := sg) (cA := cA) (D := D) (sz0 := s.heap.size) htr 8 cQ_wipe _ _ _ hca nQ_wipe rfl
  have hrv := va_recv hfix.1 hW.1 (gCl_at 11 (by decide)) (wWs_ob (show wOb 149 = 11 + 1 from by decide +kernel))
  refine vx_calli (vx_runV (As := []) (rest := []) ⟨hx, hb, hml, hown, hts⟩ hM (cwV 0 hts (wsV_good wL_28 wL_29 wL_30 wL_31 wL_32) rfl rfl rfl (by decide +kernel) ⟨Nat.le_of_ble_eq_true rfl, Nat.le_of_ble_eq_true rfl⟩) ⟨wPic_blind, hrv, fun U hU hW9 => ⟨rfl, (by rw [hU]; exact hW.1), hW.2.1, (by rw [hU]; exact hW.2.2), hfix.warm hW9 (fun q q1 q2 => by rw [hU]; exact hS.2.1 q q1 (fun h => absurd h (Nat.not_le.mpr q1)))⟩⟩ rfl rfl hl.1 rfl (lv_room (Nat.le_of_ble_eq_true rfl)) dL_law_424 ⟨by show cells + 0 ≤ 603072; omega, by show slots + 6 * 0 ≤ 7215210; omega⟩) hS (fun q _ h => h.1) (fun q h => h.1) (fun q _ h => h.1) (fun E ce q9 u2 t2 H2 locs2 ht2 hal2 hp2 => absurd (agr_es hp2) List.not_mem_nil) (fun r u t H1 locs1 ht hal hp hB hz1 hfr hS => ?_)
  obtain ⟨x, rfl, hq⟩ := hp
  rw [ht] at hB
  have hO := hO.kept hfr
  have hW := hB
  refine lv_aload_n hx hb dL_law_427 rfl (lv_at hl 3 rfl) ?_
  have hM := snd (ρ := rho s.heap.size) (sg := sg) (cA := cA) (D := D) (sz0 := s.heap.size) htr 10 cM_wipe _ _ _ hq nM_wipe rfl
  have hrv := va_recv hfix.1 hW.1 (gCl_at 12 (by decide)) (wWs_ob (show wOb 175 = 12 + 1 from by decide +kernel))
  refine vx_calli (vx_runV (As := []) (rest := [.int (Int32.ofInt x)]) ⟨hx, hb, hml, hown, hts⟩ hM (cwV 0 hts (wsV_good wL_33 wL_34 wL_35 wL_3 wL_36) rfl rfl rfl (by decide +kernel) ⟨Nat.le_of_ble_eq_true rfl, Nat.le_of_ble_eq_true rfl⟩) ⟨wPic_blind, hrv, fun U hU hW9 => ⟨rfl, (by rw [hU]; exact hW.1), hW.2.1, (by rw [hU]; exact hW.2.2), hfix.warm hW9 (fun q q1 q2 => by rw [hU]; exact hS.2.1 q q1 (fun h => absurd h (Nat.not_le.mpr q1)))⟩⟩ rfl rfl hl.1 rfl (lv_room (Nat.le_of_ble_eq_true rfl)) dL_law_428 ⟨by show cells + 0 + 0 ≤ 603072; omega, by show slots + 6 * 0 + 6 * 0 ≤ 7215210; omega⟩) hS (fun q _ h => h.1) (fun q h => h.1) (fun q _ h => h.1) (fun E ce q9 u2 t2 H2 locs2 ht2 hal2 hp2 => absurd hp2.2 agr.no) (fun r2 u2 t2 H2 locs2 ht2 hal2 hp2 hB2 hz2 hfr2 hS => ?_)
  obtain ⟨y, rfl, hI, hag⟩ := hp2
  rw [ht2] at hB2
  have hO := hO.kept hfr2
  have hy := agr_val hag
  subst hy
  refine W.widen (k := cells + 8) (n := slots + 48) (by show cells + 0 + 0 ≤ cells + 8; omega) (by show slots + 6 * 0 + 6 * 0 ≤ slots + 48; omega) ?_
  exact lv_icmp_eq (tgt := 2729) hx hb dL_law_431 (by decide) (fun _ => kk u2 z H2 locs2 ls ⟨hB2, hI, hO⟩ hS hl) (fun h => absurd rfl h)
set_option maxHeartbeats 4000000 in
set_option maxRecDepth 100000 in
theorem cs_4 {p : Program} {l : Launch} {e : Env} {s : State} {m : MethodId} {args : Array Value} {below : List Frame} {meth : Method} {c : Code} {H : Heap} {locs : List Loc} {cells slots : Nat} {Q : State → Prop} {ls : Array Slot} {D : va_G} {cA : Nat → ClassId} {sg : Nat → Nat} {b L i : Nat} {xs : Nat → Int32} {M : Mem} {z : Int64} (C : LC p l s m args c sg cA D b L xs) (hi : i + 5 ≤ L) (hc : cells + 8 ≤ 603072) (hs : slots + 48 ≤ 7215210) (hL : LWS cA D s.heap.size M z H) (hS : va_S (Al s.heap.size) s.heap H locs) (hl : lv_has ls 9 (LV b s.heap.size i))
    (kk : ∀ (M1 : Mem) (z1 : Int64) (H1 : Heap) (locs1 : List Loc) (ls1 : Array Slot), LWS cA D s.heap.size M1 z1 H1 → va_S (Al s.heap.size) s.heap H1 locs1 → lv_has ls1 9 (LV b s.heap.size i) → W p l e room_1 s m args below meth c H1 locs1 (cells + 8) (slots + 48) Q (F0 m 2729 ls1 [])) : W p l e room_1 s m args below meth c H locs cells slots Q (F0 m 436 ls []) := by
  obtain ⟨htr, hx, hb, hml, hown, hts, hX, hbl, hfix, hnc, hLL⟩ := id C
  obtain ⟨hW, hI, hO⟩ := hL
  refine lv_aload_n hx hb dL_law_436 rfl (lv_at hl 2 rfl) ?_
  refine l_arg C hS 1 (lv_at hl 1 rfl) (lv_at hl 0 rfl) hi (by decide) dL_law_437 dL_law_438 dL_law_440 dL_law_441 dL_law_442 ?_
  refine lv_aload_n hx hb dL_law_443 rfl (lv_at hl 4 rfl) ?_
  have hca := (h_signAt (sc_r xs (i + 1))) M hI
  refine va_calli (vx_runSW (As := [.ref (rho s.heap.size 149), .int (Int32.ofInt (sc xs (i + 1))), .ref (s.heap.size + 176)]) (rest := []) ⟨hx, hb, hml, hown, hts⟩ (hp_signAt (sg := sg) (cA := cA) (D := D) (sz0 := s.heap.size) (z := z) htr hca (fun e9 M9 q9 => agr_es q9)) (vx_cwSW 3 hts (wsH_good wL_37 wL_38 wL_7 wL_39) rfl rfl rfl (by decide +kernel) ⟨Nat.le_of_ble_eq_true rfl, Nat.le_of_ble_eq_true rfl⟩) ⟨lPre_blind, fun U hU hW9 => ⟨rfl, ⟨(by rw [hU]; exact hW.1), hW.2.1, (by rw [hU]; exact hW.2.2), hfix.warm hW9 (fun q q1 q2 => by rw [hU]; exact hS.2.1 q q1 (fun h => absurd h (Nat.not_le.mpr q1)))⟩, (by rw [hU]; exact hO), hnc.moved hW9.alike⟩⟩ rfl rfl hl.1 rfl (lv_room (Nat.le_of_ble_eq_true rfl)) dL_law_444 ⟨by show cells + 1 ≤ 603072; omega, by show slots + 6 ≤ 7215210; omega⟩) hS (fun q _ h => h) (fun q h => h) (fun r u t H1 locs1 ht hal hp hB hz1 hfr hS => ?_)
  obtain ⟨r0, hq, hrel⟩ := hp.rel
  obtain ⟨hW, hO⟩ := hB
  rw [ht] at hW hO
  refine lv_istore (lv' := [(5, .int r), (4, .int (Int32.ofInt (i : Int))), (0, .ref b), (1, .ref (rho s.heap.size 149)), (2, .ref (rho s.heap.size 175)), (3, .ref (s.heap.size + 176))]) hx hb dL_law_447 hl (by decide) rfl (fun ls hl => ?_)
  refine lv_aload_n hx hb dL_law_449 rfl (lv_at hl 4 rfl) ?_
  refine l_arg C hS 1 (lv_at hl 2 rfl) (lv_at hl 1 rfl) hi (by decide) dL_law_450 dL_law_451 dL_law_453 dL_law_454 dL_law_455 ?_
  have hM := snd (ρ := rho s.heap.size) (sg := sg) (cA := cA) (D := D) (sz0 := s.heap.size) htr 10 cM_signAt _ _ _ hq nM_signAt rfl
  have hrv := va_recv hfix.1 hW.1 (gCl_at 12 (by decide)) (wWs_ob (show wOb 175 = 12 + 1 from by decide +kernel))
  refine vx_calli (vx_runV (As := [.int (Int32.ofInt (sc xs (i + 1)))]) (rest := []) ⟨hx, hb, hml, hown, hts⟩ hM (cwV 1 hts (wsV_good wL_40 wL_41 wL_42 wL_3 wL_43) rfl rfl rfl (by decide +kernel) ⟨Nat.le_of_ble_eq_true rfl, Nat.le_of_ble_eq_true rfl⟩) ⟨wPic_blind, hrv, fun U hU hW9 => ⟨rfl, (by rw [hU]; exact hW.1), hW.2.1, (by rw [hU]; exact hW.2.2), hfix.warm hW9 (fun q q1 q2 => by rw [hU]; exact hS.2.1 q q1 (fun h => absurd h (Nat.not_le.mpr q1)))⟩⟩ rfl rfl hl.1 rfl (lv_room (Nat.le_of_ble_eq_true rfl)) dL_law_456 ⟨by show cells + 1 + 0 ≤ 603072; omega, by show slots + 6 + 6 * 0 ≤ 7215210; omega⟩) hS (fun q _ h => h.1) (fun q h => h.1) (fun q _ h => h.1) (fun E ce q9 u2 t2 H2 locs2 ht2 hal2 hp2 => absurd hp2.2 agr.no) (fun r2 u2 t2 H2 locs2 ht2 hal2 hp2 hB2 hz2 hfr2 hS => ?_)
  obtain ⟨y, rfl, hI, hag⟩ := hp2
  rw [ht2] at hB2
  have hO := hO.kept hfr2
  refine W.widen (k := cells + 8) (n := slots + 48) (by show cells + 1 + 0 ≤ cells + 8; omega) (by show slots + 6 + 6 * 0 ≤ slots + 48; omega) ?_
  refine lv_istore (lv' := [(6, .int (Int32.ofInt y)), (5, .int r), (4, .int (Int32.ofInt (i : Int))), (0, .ref b), (1, .ref (rho s.heap.size 149)), (2, .ref (rho s.heap.size 175)), (3, .ref (s.heap.size + 176))]) hx hb dL_law_459 hl (by decide) rfl (fun ls hl => ?_)
  exact l_tailI C ⟨hB2, hI, hO⟩ hS (by decide) (by decide) hrel hag hl.1 (lv_at hl 5 rfl) (lv_at hl 6 rfl) (lv_at hl 1 rfl) (lv_at hl 0 rfl) dL_law_461 dL_law_462 dL_law_465 dL_law_467 dL_law_472 dL_law_474 dL_law_477 dL_law_478 dL_law_479 dL_law_480 dL_law_482 dL_law_483 dL_law_484 dL_law_489 (by decide) (by omega) (by omega) (fun H3 locs3 h3 hS3 => kk u2 _ H3 locs3 ls h3 hS3 (lv_sub hl [2, 3, 4, 5, 6] rfl))
set_option maxHeartbeats 4000000 in
set_option maxRecDepth 100000 in
theorem cs_5 {p : Program} {l : Launch} {e : Env} {s : State} {m : MethodId} {args : Array Value} {below : List Frame} {meth : Method} {c : Code} {H : Heap} {locs : List Loc} {cells slots : Nat} {Q : State → Prop} {ls : Array Slot} {D : va_G} {cA : Nat → ClassId} {sg : Nat → Nat} {b L i : Nat} {xs : Nat → Int32} {M : Mem} {z : Int64} (C : LC p l s m args c sg cA D b L xs) (hi : i + 5 ≤ L) (hc : cells + 8 ≤ 603072) (hs : slots + 48 ≤ 7215210) (hL : LWS cA D s.heap.size M z H) (hS : va_S (Al s.heap.size) s.heap H locs) (hl : lv_has ls 9 (LV b s.heap.size i))
    (kk : ∀ (M1 : Mem) (z1 : Int64) (H1 : Heap) (locs1 : List Loc) (ls1 : Array Slot), LWS cA D s.heap.size M1 z1 H1 → va_S (Al s.heap.size) s.heap H1 locs1 → lv_has ls1 9 (LV b s.heap.size i) → W p l e room_1 s m args below meth c H1 locs1 (cells + 8) (slots + 48) Q (F0 m 2729 ls1 [])) : W p l e room_1 s m args below meth c H locs cells slots Q (F0 m 492 ls []) := by
  obtain ⟨htr, hx, hb, hml, hown, hts, hX, hbl, hfix, hnc, hLL⟩ := id C
  obtain ⟨hW, hI, hO⟩ := hL
  refine lv_aload_n hx hb dL_law_492 rfl (lv_at hl 2 rfl) ?_
  have hca := h_fault M hI
  have hM := snd (ρ := rho s.heap.size) (sg := sg) (cA := cA) (D := D) (sz0 := s.heap.size) htr 8 cQ_fault _ _ _ hca nQ_fault rfl
  have hrv := va_recv hfix.1 hW.1 (gCl_at 11 (by decide)) (wWs_ob (show wOb 149 = 11 + 1 from by decide +kernel))
  refine vx_calli (vx_runV (As := []) (rest := []) ⟨hx, hb, hml, hown, hts⟩ hM (cwV 0 hts (wsV_good wL_44 wL_45 wL_46 wL_31 wL_47) rfl rfl rfl (by decide +kernel) ⟨Nat.le_of_ble_eq_true rfl, Nat.le_of_ble_eq_true rfl⟩) ⟨wPic_blind, hrv, fun U hU hW9 => ⟨rfl, (by rw [hU]; exact hW.1), hW.2.1, (by rw [hU]; exact hW.2.2), hfix.warm hW9 (fun q q1 q2 => by rw [hU]; exact hS.2.1 q q1 (fun h => absurd h (Nat.not_le.mpr q1)))⟩⟩ rfl rfl hl.1 rfl (lv_room (Nat.le_of_ble_eq_true rfl)) dL_law_493 ⟨by show cells + 0 ≤ 603072; omega, by show slots + 6 * 0 ≤ 7215210; omega⟩) hS (fun q _ h => h.1) (fun q h => h.1) (fun q _ h => h.1) (fun E ce q9 u2 t2 H2 locs2 ht2 hal2 hp2 => absurd (agr_es hp2) List.not_mem_nil) (fun r u t H1 locs1 ht hal hp hB hz1 hfr hS => ?_)
  obtain ⟨x, rfl, hq⟩ := hp
  rw [ht] at hB
  have hO := hO.kept hfr
  have hW := hB
  refine lv_aload_n hx hb dL_law_496 rfl (lv_at hl 3 rfl) ?_
  have hM := snd (ρ := rho s.heap.size) (sg := sg) (cA := cA) (D := D) (sz0 := s.heap.size) htr 10 cM_fault _ _ _ hq nM_fault rfl
  have hrv := va_recv hfix.1 hW.1 (gCl_at 12 (by decide)) (wWs_ob (show wOb 175 = 12 + 1 from by decide +kernel))
  refine vx_calli (vx_runV (As := []) (rest := [.int (Int32.ofInt x)]) ⟨hx, hb, hml, hown, hts⟩ hM (cwV 0 hts (wsV_good wL_48 wL_49 wL_50 wL_3 wL_51) rfl rfl rfl (by decide +kernel) ⟨Nat.le_of_ble_eq_true rfl, Nat.le_of_ble_eq_true rfl⟩) ⟨wPic_blind, hrv, fun U hU hW9 => ⟨rfl, (by rw [hU]; exact hW.1), hW.2.1, (by rw [hU]; exact hW.2.2), hfix.warm hW9 (fun q q1 q2 => by rw [hU]; exact hS.2.1 q q1 (fun h => absurd h (Nat.not_le.mpr q1)))⟩⟩ rfl rfl hl.1 rfl (lv_room (Nat.le_of_ble_eq_true rfl)) dL_law_497 ⟨by show cells + 0 + 0 ≤ 603072; omega, by show slots + 6 * 0 + 6 * 0 ≤ 7215210; omega⟩) hS (fun q _ h => h.1) (fun q h => h.1) (fun q _ h => h.1) (fun E ce q9 u2 t2 H2 locs2 ht2 hal2 hp2 => absurd hp2.2 agr.no) (fun r2 u2 t2 H2 locs2 ht2 hal2 hp2 hB2 hz2 hfr2 hS => ?_)
  obtain ⟨y, rfl, hI, hag⟩ := hp2
  rw [ht2] at hB2
  have hO := hO.kept hfr2
  have hy := agr_val hag
  subst hy
  refine W.widen (k := cells + 8) (n := slots + 48) (by show cells + 0 + 0 ≤ cells + 8; omega) (by show slots + 6 * 0 + 6 * 0 ≤ slots + 48; omega) ?_
  exact lv_icmp_eq (tgt := 2729) hx hb dL_law_500 (by decide) (fun _ => kk u2 z H2 locs2 ls ⟨hB2, hI, hO⟩ hS hl) (fun h => absurd rfl h)
set_option maxHeartbeats 4000000 in
set_option maxRecDepth 100000 in
theorem cs_6 {p : Program} {l : Launch} {e : Env} {s : State} {m : MethodId} {args : Array Value} {below : List Frame} {meth : Method} {c : Code} {H : Heap} {locs : List Loc} {cells slots : Nat} {Q : State → Prop} {ls : Array Slot} {D : va_G} {cA : Nat → ClassId} {sg : Nat → Nat} {b L i : Nat} {xs : Nat → Int32} {M : Mem} {z : Int64} (C : LC p l s m args c sg cA D b L xs) (hi : i + 5 ≤ L) (hc : cells + 8 ≤ 603072) (hs : slots + 48 ≤ 7215210) (hL : LWS cA D s.heap.size M z H) (hS : va_S (Al s.heap.size) s.heap H locs) (hl : lv_has ls 9 (LV b s.heap.size i))
    (kk : ∀ (M1 : Mem) (z1 : Int64) (H1 : Heap) (locs1 : List Loc) (ls1 : Array Slot), LWS cA D s.heap.size M1 z1 H1 → va_S (Al s.heap.size) s.heap H1 locs1 → lv_has ls1 9 (LV b s.heap.size i) → W p l e room_1 s m args below meth c H1 locs1 (cells + 8) (slots + 48) Q (F0 m 2729 ls1 [])) : W p l e room_1 s m args below meth c H locs cells slots Q (F0 m 505 ls []) := by
  obtain ⟨htr, hx, hb, hml, hown, hts, hX, hbl, hfix, hnc, hLL⟩ := id C
  obtain ⟨hW, hI, hO⟩ := hL
  refine lv_aload_n hx hb dL_law_505 rfl (lv_at hl 2 rfl) ?_
  refine lv_aload_n hx hb dL_law_506 rfl (lv_at hl 4 rfl) ?_
  have hca := h_read M hI
  refine va_calli (vx_runSW (As := [.ref (rho s.heap.size 149), .ref (s.heap.size + 176)]) (rest := []) ⟨hx, hb, hml, hown, hts⟩ (hp_read (sg := sg) (cA := cA) (D := D) (sz0 := s.heap.size) (z := z) htr hca (fun e9 M9 q9 => agr_es q9)) (vx_cwSW 2 hts (wsH_good wL_52 wL_53 wL_7 wL_54) rfl rfl rfl (by decide +kernel) ⟨Nat.le_of_ble_eq_true rfl, Nat.le_of_ble_eq_true rfl⟩) ⟨lPre_blind, fun U hU hW9 => ⟨rfl, ⟨(by rw [hU]; exact hW.1), hW.2.1, (by rw [hU]; exact hW.2.2), hfix.warm hW9 (fun q q1 q2 => by rw [hU]; exact hS.2.1 q q1 (fun h => absurd h (Nat.not_le.mpr q1)))⟩, (by rw [hU]; exact hO), hnc.moved hW9.alike⟩⟩ rfl rfl hl.1 rfl (lv_room (Nat.le_of_ble_eq_true rfl)) dL_law_507 ⟨by show cells + 1 ≤ 603072; omega, by show slots + 6 ≤ 7215210; omega⟩) hS (fun q _ h => h) (fun q h => h) (fun r u t H1 locs1 ht hal hp hB hz1 hfr hS => ?_)
  obtain ⟨r0, hq, hrel⟩ := hp.rel
  obtain ⟨hW, hO⟩ := hB
  rw [ht] at hW hO
  refine lv_istore (lv' := [(5, .int r), (4, .int (Int32.ofInt (i : Int))), (0, .ref b), (1, .ref (rho s.heap.size 149)), (2, .ref (rho s.heap.size 175)), (3, .ref (s.heap.size + 176))]) hx hb dL_law_510 hl (by decide) rfl (fun ls hl => ?_)
  refine lv_aload_n hx hb dL_law_512 rfl (lv_at hl 4 rfl) ?_
  have hM := snd (ρ := rho s.heap.size) (sg := sg) (cA := cA) (D := D) (sz0 := s.heap.size) htr 10 cM_read _ _ _ hq nM_read rfl
  have hrv := va_recv hfix.1 hW.1 (gCl_at 12 (by decide)) (wWs_ob (show wOb 175 = 12 + 1 from by decide +kernel))
  refine vx_calli (vx_runV (As := []) (rest := []) ⟨hx, hb, hml, hown, hts⟩ hM (cwV 0 hts (wsV_good wL_55 wL_56 wL_57 wL_3 wL_58) rfl rfl rfl (by decide +kernel) ⟨Nat.le_of_ble_eq_true rfl, Nat.le_of_ble_eq_true rfl⟩) ⟨wPic_blind, hrv, fun U hU hW9 => ⟨rfl, (by rw [hU]; exact hW.1), hW.2.1, (by rw [hU]; exact hW.2.2), hfix.warm hW9 (fun q q1 q2 => by rw [hU]; exact hS.2.1 q q1 (fun h => absurd h (Nat.not_le.mpr q1)))⟩⟩ rfl rfl hl.1 rfl (lv_room (Nat.le_of_ble_eq_true rfl)) dL_law_513 ⟨by show cells + 1 + 0 ≤ 603072; omega, by show slots + 6 + 6 * 0 ≤ 7215210; omega⟩) hS (fun q _ h => h.1) (fun q h => h.1) (fun q _ h => h.1) (fun E ce q9 u2 t2 H2 locs2 ht2 hal2 hp2 => absurd hp2.2 agr.no) (fun r2 u2 t2 H2 locs2 ht2 hal2 hp2 hB2 hz2 hfr2 hS => ?_)
  obtain ⟨y, rfl, hI, hag⟩ := hp2
  rw [ht2] at hB2
  have hO := hO.kept hfr2
  refine W.widen (k := cells + 8) (n := slots + 48) (by show cells + 1 + 0 ≤ cells + 8; omega) (by show slots + 6 + 6 * 0 ≤ slots + 48; omega) ?_
  refine lv_istore (lv' := [(6, .int (Int32.ofInt y)), (5, .int r), (4, .int (Int32.ofInt (i : Int))), (0, .ref b), (1, .ref (rho s.heap.size 149)), (2, .ref (rho s.heap.size 175)), (3, .ref (s.heap.size + 176))]) hx hb dL_law_516 hl (by decide) rfl (fun ls hl => ?_)
  exact l_tailI C ⟨hB2, hI, hO⟩ hS (by decide) (by decide) hrel hag hl.1 (lv_at hl 5 rfl) (lv_at hl 6 rfl) (lv_at hl 1 rfl) (lv_at hl 0 rfl) dL_law_518 dL_law_519 dL_law_522 dL_law_524 dL_law_529 dL_law_531 dL_law_534 dL_law_535 dL_law_536 dL_law_537 dL_law_539 dL_law_540 dL_law_541 dL_law_546 (by decide) (by omega) (by omega) (fun H3 locs3 h3 hS3 => kk u2 _ H3 locs3 ls h3 hS3 (lv_sub hl [2, 3, 4, 5, 6] rfl))
set_option maxHeartbeats 4000000 in
set_option maxRecDepth 100000 in
theorem cs_7 {p : Program} {l : Launch} {e : Env} {s : State} {m : MethodId} {args : Array Value} {below : List Frame} {meth : Method} {c : Code} {H : Heap} {locs : List Loc} {cells slots : Nat} {Q : State → Prop} {ls : Array Slot} {D : va_G} {cA : Nat → ClassId} {sg : Nat → Nat} {b L i : Nat} {xs : Nat → Int32} {M : Mem} {z : Int64} (C : LC p l s m args c sg cA D b L xs) (hi : i + 5 ≤ L) (hc : cells + 8 ≤ 603072) (hs : slots + 48 ≤ 7215210) (hL : LWS cA D s.heap.size M z H) (hS : va_S (Al s.heap.size) s.heap H locs) (hl : lv_has ls 9 (LV b s.heap.size i))
    (kk : ∀ (M1 : Mem) (z1 : Int64) (H1 : Heap) (locs1 : List Loc) (ls1 : Array Slot), LWS cA D s.heap.size M1 z1 H1 → va_S (Al s.heap.size) s.heap H1 locs1 → lv_has ls1 9 (LV b s.heap.size i) → W p l e room_1 s m args below meth c H1 locs1 (cells + 8) (slots + 48) Q (F0 m 2729 ls1 [])) : W p l e room_1 s m args below meth c H locs cells slots Q (F0 m 549 ls []) := by
  obtain ⟨htr, hx, hb, hml, hown, hts, hX, hbl, hfix, hnc, hLL⟩ := id C
  obtain ⟨hW, hI, hO⟩ := hL
  refine lv_aload_n hx hb dL_law_549 rfl (lv_at hl 2 rfl) ?_
  refine l_arg C hS 1 (lv_at hl 1 rfl) (lv_at hl 0 rfl) hi (by decide) dL_law_550 dL_law_551 dL_law_553 dL_law_554 dL_law_555 ?_
  refine l_arg C hS 2 (lv_at hl 1 rfl) (lv_at hl 0 rfl) hi (by decide) dL_law_556 dL_law_557 dL_law_559 dL_law_560 dL_law_561 ?_
  refine l_arg C hS 3 (lv_at hl 1 rfl) (lv_at hl 0 rfl) hi (by decide) dL_law_562 dL_law_563 dL_law_565 dL_law_566 dL_law_567 ?_
  refine l_arg C hS 4 (lv_at hl 1 rfl) (lv_at hl 0 rfl) hi (by decide) dL_law_568 dL_law_569 dL_law_571 dL_law_572 dL_law_573 ?_
  refine lv_aload_n hx hb dL_law_574 rfl (lv_at hl 4 rfl) ?_
  have hca := (h_come (sc_r xs (i + 1)) (sc_r xs (i + 2)) (sc_r xs (i + 3)) (sc_r xs (i + 4))) M hI
  refine va_calli (vx_runSW (As := [.ref (rho s.heap.size 149), .int (Int32.ofInt (sc xs (i + 1))), .int (Int32.ofInt (sc xs (i + 2))), .int (Int32.ofInt (sc xs (i + 3))), .int (Int32.ofInt (sc xs (i + 4))), .ref (s.heap.size + 176)]) (rest := []) ⟨hx, hb, hml, hown, hts⟩ (hp_come (sg := sg) (cA := cA) (D := D) (sz0 := s.heap.size) (z := z) htr hca (fun e9 M9 q9 => agr_es q9)) (vx_cwSW 6 hts (wsH_good wL_59 wL_60 wL_7 wL_61) rfl rfl rfl (by decide +kernel) ⟨Nat.le_of_ble_eq_true rfl, Nat.le_of_ble_eq_true rfl⟩) ⟨lPre_blind, fun U hU hW9 => ⟨rfl, ⟨(by rw [hU]; exact hW.1), hW.2.1, (by rw [hU]; exact hW.2.2), hfix.warm hW9 (fun q q1 q2 => by rw [hU]; exact hS.2.1 q q1 (fun h => absurd h (Nat.not_le.mpr q1)))⟩, (by rw [hU]; exact hO), hnc.moved hW9.alike⟩⟩ rfl rfl hl.1 rfl (lv_room (Nat.le_of_ble_eq_true rfl)) dL_law_575 ⟨by show cells + 1 ≤ 603072; omega, by show slots + 6 ≤ 7215210; omega⟩) hS (fun q _ h => h) (fun q h => h) (fun r u t H1 locs1 ht hal hp hB hz1 hfr hS => ?_)
  obtain ⟨r0, hq, hrel⟩ := hp.rel
  obtain ⟨hW, hO⟩ := hB
  rw [ht] at hW hO
  refine lv_istore (lv' := [(5, .int r), (4, .int (Int32.ofInt (i : Int))), (0, .ref b), (1, .ref (rho s.heap.size 149)), (2, .ref (rho s.heap.size 175)), (3, .ref (s.heap.size + 176))]) hx hb dL_law_578 hl (by decide) rfl (fun ls hl => ?_)
  refine lv_aload_n hx hb dL_law_580 rfl (lv_at hl 4 rfl) ?_
  refine l_arg C hS 1 (lv_at hl 2 rfl) (lv_at hl 1 rfl) hi (by decide) dL_law_581 dL_law_582 dL_law_584 dL_law_585 dL_law_586 ?_
  refine l_arg C hS 2 (lv_at hl 2 rfl) (lv_at hl 1 rfl) hi (by decide) dL_law_587 dL_law_588 dL_law_590 dL_law_591 dL_law_592 ?_
  refine l_arg C hS 3 (lv_at hl 2 rfl) (lv_at hl 1 rfl) hi (by decide) dL_law_593 dL_law_594 dL_law_596 dL_law_597 dL_law_598 ?_
  refine l_arg C hS 4 (lv_at hl 2 rfl) (lv_at hl 1 rfl) hi (by decide) dL_law_599 dL_law_600 dL_law_602 dL_law_603 dL_law_604 ?_
  have hM := snd (ρ := rho s.heap.size) (sg := sg) (cA := cA) (D := D) (sz0 := s.heap.size) htr 10 cM_come _ _ _ hq nM_come rfl
  have hrv := va_recv hfix.1 hW.1 (gCl_at 12 (by decide)) (wWs_ob (show wOb 175 = 12 + 1 from by decide +kernel))
  refine vx_calli (vx_runV (As := [.int (Int32.ofInt (sc xs (i + 1))), .int (Int32.ofInt (sc xs (i + 2))), .int (Int32.ofInt (sc xs (i + 3))), .int (Int32.ofInt (sc xs (i + 4)))]) (rest := []) ⟨hx, hb, hml, hown, hts⟩ hM (cwV 4 hts (wsV_good wL_62 wL_63 wL_64 wL_3 wL_65) rfl rfl rfl (by decide +kernel) ⟨Nat.le_of_ble_eq_true rfl, Nat.le_of_ble_eq_true rfl⟩) ⟨wPic_blind, hrv, fun U hU hW9 => ⟨rfl, (by rw [hU]; exact hW.1), hW.2.1, (by rw [hU]; exact hW.2.2), hfix.warm hW9 (fun q q1 q2 => by rw [hU]; exact hS.2.1 q q1 (fun h => absurd h (Nat.not_le.mpr q1)))⟩⟩ rfl rfl hl.1 rfl (lv_room (Nat.le_of_ble_eq_true rfl)) dL_law_605 ⟨by show cells + 1 + 0 ≤ 603072; omega, by show slots + 6 + 6 * 0 ≤ 7215210; omega⟩) hS (fun q _ h => h.1) (fun q h => h.1) (fun q _ h => h.1) (fun E ce q9 u2 t2 H2 locs2 ht2 hal2 hp2 => absurd hp2.2 agr.no) (fun r2 u2 t2 H2 locs2 ht2 hal2 hp2 hB2 hz2 hfr2 hS => ?_)
  obtain ⟨y, rfl, hI, hag⟩ := hp2
  rw [ht2] at hB2
  have hO := hO.kept hfr2
  refine W.widen (k := cells + 8) (n := slots + 48) (by show cells + 1 + 0 ≤ cells + 8; omega) (by show slots + 6 + 6 * 0 ≤ slots + 48; omega) ?_
  refine lv_istore (lv' := [(6, .int (Int32.ofInt y)), (5, .int r), (4, .int (Int32.ofInt (i : Int))), (0, .ref b), (1, .ref (rho s.heap.size 149)), (2, .ref (rho s.heap.size 175)), (3, .ref (s.heap.size + 176))]) hx hb dL_law_608 hl (by decide) rfl (fun ls hl => ?_)
  exact l_tailI C ⟨hB2, hI, hO⟩ hS (by decide) (by decide) hrel hag hl.1 (lv_at hl 5 rfl) (lv_at hl 6 rfl) (lv_at hl 1 rfl) (lv_at hl 0 rfl) dL_law_610 dL_law_611 dL_law_614 dL_law_616 dL_law_621 dL_law_623 dL_law_626 dL_law_627 dL_law_628 dL_law_629 dL_law_631 dL_law_632 dL_law_633 dL_law_638 (by decide) (by omega) (by omega) (fun H3 locs3 h3 hS3 => kk u2 _ H3 locs3 ls h3 hS3 (lv_sub hl [2, 3, 4, 5, 6] rfl))
set_option maxHeartbeats 4000000 in
set_option maxRecDepth 100000 in
theorem cs_8 {p : Program} {l : Launch} {e : Env} {s : State} {m : MethodId} {args : Array Value} {below : List Frame} {meth : Method} {c : Code} {H : Heap} {locs : List Loc} {cells slots : Nat} {Q : State → Prop} {ls : Array Slot} {D : va_G} {cA : Nat → ClassId} {sg : Nat → Nat} {b L i : Nat} {xs : Nat → Int32} {M : Mem} {z : Int64} (C : LC p l s m args c sg cA D b L xs) (hi : i + 5 ≤ L) (hc : cells + 8 ≤ 603072) (hs : slots + 48 ≤ 7215210) (hL : LWS cA D s.heap.size M z H) (hS : va_S (Al s.heap.size) s.heap H locs) (hl : lv_has ls 9 (LV b s.heap.size i))
    (kk : ∀ (M1 : Mem) (z1 : Int64) (H1 : Heap) (locs1 : List Loc) (ls1 : Array Slot), LWS cA D s.heap.size M1 z1 H1 → va_S (Al s.heap.size) s.heap H1 locs1 → lv_has ls1 9 (LV b s.heap.size i) → W p l e room_1 s m args below meth c H1 locs1 (cells + 8) (slots + 48) Q (F0 m 2729 ls1 [])) : W p l e room_1 s m args below meth c H locs cells slots Q (F0 m 641 ls []) := by
  obtain ⟨htr, hx, hb, hml, hown, hts, hX, hbl, hfix, hnc, hLL⟩ := id C
  obtain ⟨hW, hI, hO⟩ := hL
  refine lv_aload_n hx hb dL_law_641 rfl (lv_at hl 2 rfl) ?_
  have hca := h_clear M hI
  have hM := snd (ρ := rho s.heap.size) (sg := sg) (cA := cA) (D := D) (sz0 := s.heap.size) htr 8 cQ_clear _ _ _ hca nQ_clear rfl
  have hrv := va_recv hfix.1 hW.1 (gCl_at 11 (by decide)) (wWs_ob (show wOb 149 = 11 + 1 from by decide +kernel))
  refine vx_calli (vx_runV (As := []) (rest := []) ⟨hx, hb, hml, hown, hts⟩ hM (cwV 0 hts (wsV_good wL_66 wL_67 wL_68 wL_31 wL_69) rfl rfl rfl (by decide +kernel) ⟨Nat.le_of_ble_eq_true rfl, Nat.le_of_ble_eq_true rfl⟩) ⟨wPic_blind, hrv, fun U hU hW9 => ⟨rfl, (by rw [hU]; exact hW.1), hW.2.1, (by rw [hU]; exact hW.2.2), hfix.warm hW9 (fun q q1 q2 => by rw [hU]; exact hS.2.1 q q1 (fun h => absurd h (Nat.not_le.mpr q1)))⟩⟩ rfl rfl hl.1 rfl (lv_room (Nat.le_of_ble_eq_true rfl)) dL_law_642 ⟨by show cells + 0 ≤ 603072; omega, by show slots + 6 * 0 ≤ 7215210; omega⟩) hS (fun q _ h => h.1) (fun q h => h.1) (fun q _ h => h.1) (fun E ce q9 u2 t2 H2 locs2 ht2 hal2 hp2 => absurd (agr_es hp2) List.not_mem_nil) (fun r u t H1 locs1 ht hal hp hB hz1 hfr hS => ?_)
  obtain ⟨x, rfl, hq⟩ := hp
  rw [ht] at hB
  have hO := hO.kept hfr
  have hW := hB
  refine lv_aload_n hx hb dL_law_645 rfl (lv_at hl 3 rfl) ?_
  have hM := snd (ρ := rho s.heap.size) (sg := sg) (cA := cA) (D := D) (sz0 := s.heap.size) htr 10 cM_clear _ _ _ hq nM_clear rfl
  have hrv := va_recv hfix.1 hW.1 (gCl_at 12 (by decide)) (wWs_ob (show wOb 175 = 12 + 1 from by decide +kernel))
  refine vx_calli (vx_runV (As := []) (rest := [.int (Int32.ofInt x)]) ⟨hx, hb, hml, hown, hts⟩ hM (cwV 0 hts (wsV_good wL_70 wL_71 wL_72 wL_3 wL_73) rfl rfl rfl (by decide +kernel) ⟨Nat.le_of_ble_eq_true rfl, Nat.le_of_ble_eq_true rfl⟩) ⟨wPic_blind, hrv, fun U hU hW9 => ⟨rfl, (by rw [hU]; exact hW.1), hW.2.1, (by rw [hU]; exact hW.2.2), hfix.warm hW9 (fun q q1 q2 => by rw [hU]; exact hS.2.1 q q1 (fun h => absurd h (Nat.not_le.mpr q1)))⟩⟩ rfl rfl hl.1 rfl (lv_room (Nat.le_of_ble_eq_true rfl)) dL_law_646 ⟨by show cells + 0 + 0 ≤ 603072; omega, by show slots + 6 * 0 + 6 * 0 ≤ 7215210; omega⟩) hS (fun q _ h => h.1) (fun q h => h.1) (fun q _ h => h.1) (fun E ce q9 u2 t2 H2 locs2 ht2 hal2 hp2 => absurd hp2.2 agr.no) (fun r2 u2 t2 H2 locs2 ht2 hal2 hp2 hB2 hz2 hfr2 hS => ?_)
  obtain ⟨y, rfl, hI, hag⟩ := hp2
  rw [ht2] at hB2
  have hO := hO.kept hfr2
  have hy := agr_val hag
  subst hy
  refine W.widen (k := cells + 8) (n := slots + 48) (by show cells + 0 + 0 ≤ cells + 8; omega) (by show slots + 6 * 0 + 6 * 0 ≤ slots + 48; omega) ?_
  exact lv_icmp_eq (tgt := 2729) hx hb dL_law_649 (by decide) (fun _ => kk u2 z H2 locs2 ls ⟨hB2, hI, hO⟩ hS hl) (fun h => absurd rfl h)
set_option maxHeartbeats 4000000 in
set_option maxRecDepth 100000 in
theorem cs_9 {p : Program} {l : Launch} {e : Env} {s : State} {m : MethodId} {args : Array Value} {below : List Frame} {meth : Method} {c : Code} {H : Heap} {locs : List Loc} {cells slots : Nat} {Q : State → Prop} {ls : Array Slot} {D : va_G} {cA : Nat → ClassId} {sg : Nat → Nat} {b L i : Nat} {xs : Nat → Int32} {M : Mem} {z : Int64} (C : LC p l s m args c sg cA D b L xs) (hi : i + 5 ≤ L) (hc : cells + 8 ≤ 603072) (hs : slots + 48 ≤ 7215210) (hL : LWS cA D s.heap.size M z H) (hS : va_S (Al s.heap.size) s.heap H locs) (hl : lv_has ls 9 (LV b s.heap.size i))
    (kk : ∀ (M1 : Mem) (z1 : Int64) (H1 : Heap) (locs1 : List Loc) (ls1 : Array Slot), LWS cA D s.heap.size M1 z1 H1 → va_S (Al s.heap.size) s.heap H1 locs1 → lv_has ls1 9 (LV b s.heap.size i) → W p l e room_1 s m args below meth c H1 locs1 (cells + 8) (slots + 48) Q (F0 m 2729 ls1 [])) : W p l e room_1 s m args below meth c H locs cells slots Q (F0 m 654 ls []) := by
  obtain ⟨htr, hx, hb, hml, hown, hts, hX, hbl, hfix, hnc, hLL⟩ := id C
  obtain ⟨hW, hI, hO⟩ := hL
  refine lv_aload_n hx hb dL_law_654 rfl (lv_at hl 2 rfl) ?_
  refine lv_aload_n hx hb dL_law_655 rfl (lv_at hl 4 rfl) ?_
  have hca := h_undo M hI
  refine va_calli (vx_runSW (As := [.ref (rho s.heap.size 149), .ref (s.heap.size + 176)]) (rest := []) ⟨hx, hb, hml, hown, hts⟩ (hp_undo (sg := sg) (cA := cA) (D := D) (sz0 := s.heap.size) (z := z) htr hca (fun e9 M9 q9 => agr_es q9)) (vx_cwSW 2 hts (wsH_good wL_74 wL_75 wL_7 wL_76) rfl rfl rfl (by decide +kernel) ⟨Nat.le_of_ble_eq_true rfl, Nat.le_of_ble_eq_true rfl⟩) ⟨lPre_blind, fun U hU hW9 => ⟨rfl, ⟨(by rw [hU]; exact hW.1), hW.2.1, (by rw [hU]; exact hW.2.2), hfix.warm hW9 (fun q q1 q2 => by rw [hU]; exact hS.2.1 q q1 (fun h => absurd h (Nat.not_le.mpr q1)))⟩, (by rw [hU]; exact hO), hnc.moved hW9.alike⟩⟩ rfl rfl hl.1 rfl (lv_room (Nat.le_of_ble_eq_true rfl)) dL_law_656 ⟨by show cells + 1 ≤ 603072; omega, by show slots + 6 ≤ 7215210; omega⟩) hS (fun q _ h => h) (fun q h => h) (fun r u t H1 locs1 ht hal hp hB hz1 hfr hS => ?_)
  obtain ⟨r0, hq, hrel⟩ := hp.rel
  obtain ⟨hW, hO⟩ := hB
  rw [ht] at hW hO
  refine lv_istore (lv' := [(5, .int r), (4, .int (Int32.ofInt (i : Int))), (0, .ref b), (1, .ref (rho s.heap.size 149)), (2, .ref (rho s.heap.size 175)), (3, .ref (s.heap.size + 176))]) hx hb dL_law_659 hl (by decide) rfl (fun ls hl => ?_)
  refine lv_aload_n hx hb dL_law_661 rfl (lv_at hl 4 rfl) ?_
  have hM := snd (ρ := rho s.heap.size) (sg := sg) (cA := cA) (D := D) (sz0 := s.heap.size) htr 10 cM_undo _ _ _ hq nM_undo rfl
  have hrv := va_recv hfix.1 hW.1 (gCl_at 12 (by decide)) (wWs_ob (show wOb 175 = 12 + 1 from by decide +kernel))
  refine vx_calli (vx_runV (As := []) (rest := []) ⟨hx, hb, hml, hown, hts⟩ hM (cwV 0 hts (wsV_good wL_77 wL_78 wL_79 wL_3 wL_80) rfl rfl rfl (by decide +kernel) ⟨Nat.le_of_ble_eq_true rfl, Nat.le_of_ble_eq_true rfl⟩) ⟨wPic_blind, hrv, fun U hU hW9 => ⟨rfl, (by rw [hU]; exact hW.1), hW.2.1, (by rw [hU]; exact hW.2.2), hfix.warm hW9 (fun q q1 q2 => by rw [hU]; exact hS.2.1 q q1 (fun h => absurd h (Nat.not_le.mpr q1)))⟩⟩ rfl rfl hl.1 rfl (lv_room (Nat.le_of_ble_eq_true rfl)) dL_law_662 ⟨by show cells + 1 + 0 ≤ 603072; omega, by show slots + 6 + 6 * 0 ≤ 7215210; omega⟩) hS (fun q _ h => h.1) (fun q h => h.1) (fun q _ h => h.1) (fun E ce q9 u2 t2 H2 locs2 ht2 hal2 hp2 => absurd hp2.2 agr.no) (fun r2 u2 t2 H2 locs2 ht2 hal2 hp2 hB2 hz2 hfr2 hS => ?_)
  obtain ⟨y, rfl, hI, hag⟩ := hp2
  rw [ht2] at hB2
  have hO := hO.kept hfr2
  refine W.widen (k := cells + 8) (n := slots + 48) (by show cells + 1 + 0 ≤ cells + 8; omega) (by show slots + 6 + 6 * 0 ≤ slots + 48; omega) ?_
  refine lv_istore (lv' := [(6, .int (Int32.ofInt y)), (5, .int r), (4, .int (Int32.ofInt (i : Int))), (0, .ref b), (1, .ref (rho s.heap.size 149)), (2, .ref (rho s.heap.size 175)), (3, .ref (s.heap.size + 176))]) hx hb dL_law_665 hl (by decide) rfl (fun ls hl => ?_)
  exact l_tailI C ⟨hB2, hI, hO⟩ hS (by decide) (by decide) hrel hag hl.1 (lv_at hl 5 rfl) (lv_at hl 6 rfl) (lv_at hl 1 rfl) (lv_at hl 0 rfl) dL_law_667 dL_law_668 dL_law_671 dL_law_673 dL_law_678 dL_law_680 dL_law_683 dL_law_684 dL_law_685 dL_law_686 dL_law_688 dL_law_689 dL_law_690 dL_law_695 (by decide) (by omega) (by omega) (fun H3 locs3 h3 hS3 => kk u2 _ H3 locs3 ls h3 hS3 (lv_sub hl [2, 3, 4, 5, 6] rfl))
set_option maxHeartbeats 4000000 in
set_option maxRecDepth 100000 in
theorem cs_10 {p : Program} {l : Launch} {e : Env} {s : State} {m : MethodId} {args : Array Value} {below : List Frame} {meth : Method} {c : Code} {H : Heap} {locs : List Loc} {cells slots : Nat} {Q : State → Prop} {ls : Array Slot} {D : va_G} {cA : Nat → ClassId} {sg : Nat → Nat} {b L i : Nat} {xs : Nat → Int32} {M : Mem} {z : Int64} (C : LC p l s m args c sg cA D b L xs) (hi : i + 5 ≤ L) (hc : cells + 8 ≤ 603072) (hs : slots + 48 ≤ 7215210) (hL : LWS cA D s.heap.size M z H) (hS : va_S (Al s.heap.size) s.heap H locs) (hl : lv_has ls 9 (LV b s.heap.size i))
    (kk : ∀ (M1 : Mem) (z1 : Int64) (H1 : Heap) (locs1 : List Loc) (ls1 : Array Slot), LWS cA D s.heap.size M1 z1 H1 → va_S (Al s.heap.size) s.heap H1 locs1 → lv_has ls1 9 (LV b s.heap.size i) → W p l e room_1 s m args below meth c H1 locs1 (cells + 8) (slots + 48) Q (F0 m 2729 ls1 [])) : W p l e room_1 s m args below meth c H locs cells slots Q (F0 m 698 ls []) := by
  obtain ⟨htr, hx, hb, hml, hown, hts, hX, hbl, hfix, hnc, hLL⟩ := id C
  obtain ⟨hW, hI, hO⟩ := hL
  refine lv_aload_n hx hb dL_law_698 rfl (lv_at hl 2 rfl) ?_
  refine l_arg C hS 1 (lv_at hl 1 rfl) (lv_at hl 0 rfl) hi (by decide) dL_law_699 dL_law_700 dL_law_702 dL_law_703 dL_law_704 ?_
  refine l_arg C hS 2 (lv_at hl 1 rfl) (lv_at hl 0 rfl) hi (by decide) dL_law_705 dL_law_706 dL_law_708 dL_law_709 dL_law_710 ?_
  refine l_arg C hS 3 (lv_at hl 1 rfl) (lv_at hl 0 rfl) hi (by decide) dL_law_711 dL_law_712 dL_law_714 dL_law_715 dL_law_716 ?_
  refine l_arg C hS 4 (lv_at hl 1 rfl) (lv_at hl 0 rfl) hi (by decide) dL_law_717 dL_law_718 dL_law_720 dL_law_721 dL_law_722 ?_
  refine lv_aload_n hx hb dL_law_723 rfl (lv_at hl 4 rfl) ?_
  have hca := (h_line (sc_r xs (i + 1)) (sc_r xs (i + 2)) (sc_r xs (i + 3)) (sc_r xs (i + 4))) M hI
  refine va_calli (vx_runSW (As := [.ref (rho s.heap.size 149), .int (Int32.ofInt (sc xs (i + 1))), .int (Int32.ofInt (sc xs (i + 2))), .int (Int32.ofInt (sc xs (i + 3))), .int (Int32.ofInt (sc xs (i + 4))), .ref (s.heap.size + 176)]) (rest := []) ⟨hx, hb, hml, hown, hts⟩ (hp_line (sg := sg) (cA := cA) (D := D) (sz0 := s.heap.size) (z := z) htr hca (fun e9 M9 q9 => agr_es q9)) (vx_cwSW 6 hts (wsH_good wL_81 wL_82 wL_7 wL_83) rfl rfl rfl (by decide +kernel) ⟨Nat.le_of_ble_eq_true rfl, Nat.le_of_ble_eq_true rfl⟩) ⟨lPre_blind, fun U hU hW9 => ⟨rfl, ⟨(by rw [hU]; exact hW.1), hW.2.1, (by rw [hU]; exact hW.2.2), hfix.warm hW9 (fun q q1 q2 => by rw [hU]; exact hS.2.1 q q1 (fun h => absurd h (Nat.not_le.mpr q1)))⟩, (by rw [hU]; exact hO), hnc.moved hW9.alike⟩⟩ rfl rfl hl.1 rfl (lv_room (Nat.le_of_ble_eq_true rfl)) dL_law_724 ⟨by show cells + 1 ≤ 603072; omega, by show slots + 6 ≤ 7215210; omega⟩) hS (fun q _ h => h) (fun q h => h) (fun r u t H1 locs1 ht hal hp hB hz1 hfr hS => ?_)
  obtain ⟨r0, hq, hrel⟩ := hp.rel
  obtain ⟨hW, hO⟩ := hB
  rw [ht] at hW hO
  refine lv_istore (lv' := [(5, .int r), (4, .int (Int32.ofInt (i : Int))), (0, .ref b), (1, .ref (rho s.heap.size 149)), (2, .ref (rho s.heap.size 175)), (3, .ref (s.heap.size + 176))]) hx hb dL_law_727 hl (by decide) rfl (fun ls hl => ?_)
  refine lv_aload_n hx hb dL_law_729 rfl (lv_at hl 4 rfl) ?_
  refine l_arg C hS 1 (lv_at hl 2 rfl) (lv_at hl 1 rfl) hi (by decide) dL_law_730 dL_law_731 dL_law_733 dL_law_734 dL_law_735 ?_
  refine l_arg C hS 2 (lv_at hl 2 rfl) (lv_at hl 1 rfl) hi (by decide) dL_law_736 dL_law_737 dL_law_739 dL_law_740 dL_law_741 ?_
  refine l_arg C hS 3 (lv_at hl 2 rfl) (lv_at hl 1 rfl) hi (by decide) dL_law_742 dL_law_743 dL_law_745 dL_law_746 dL_law_747 ?_
  refine l_arg C hS 4 (lv_at hl 2 rfl) (lv_at hl 1 rfl) hi (by decide) dL_law_748 dL_law_749 dL_law_751 dL_law_752 dL_law_753 ?_
  have hM := snd (ρ := rho s.heap.size) (sg := sg) (cA := cA) (D := D) (sz0 := s.heap.size) htr 10 cM_line _ _ _ hq nM_line rfl
  have hrv := va_recv hfix.1 hW.1 (gCl_at 12 (by decide)) (wWs_ob (show wOb 175 = 12 + 1 from by decide +kernel))
  refine vx_calli (vx_runV (As := [.int (Int32.ofInt (sc xs (i + 1))), .int (Int32.ofInt (sc xs (i + 2))), .int (Int32.ofInt (sc xs (i + 3))), .int (Int32.ofInt (sc xs (i + 4)))]) (rest := []) ⟨hx, hb, hml, hown, hts⟩ hM (cwV 4 hts (wsV_good wL_84 wL_85 wL_86 wL_3 wL_87) rfl rfl rfl (by decide +kernel) ⟨Nat.le_of_ble_eq_true rfl, Nat.le_of_ble_eq_true rfl⟩) ⟨wPic_blind, hrv, fun U hU hW9 => ⟨rfl, (by rw [hU]; exact hW.1), hW.2.1, (by rw [hU]; exact hW.2.2), hfix.warm hW9 (fun q q1 q2 => by rw [hU]; exact hS.2.1 q q1 (fun h => absurd h (Nat.not_le.mpr q1)))⟩⟩ rfl rfl hl.1 rfl (lv_room (Nat.le_of_ble_eq_true rfl)) dL_law_754 ⟨by show cells + 1 + 0 ≤ 603072; omega, by show slots + 6 + 6 * 0 ≤ 7215210; omega⟩) hS (fun q _ h => h.1) (fun q h => h.1) (fun q _ h => h.1) (fun E ce q9 u2 t2 H2 locs2 ht2 hal2 hp2 => absurd hp2.2 agr.no) (fun r2 u2 t2 H2 locs2 ht2 hal2 hp2 hB2 hz2 hfr2 hS => ?_)
  obtain ⟨y, rfl, hI, hag⟩ := hp2
  rw [ht2] at hB2
  have hO := hO.kept hfr2
  refine W.widen (k := cells + 8) (n := slots + 48) (by show cells + 1 + 0 ≤ cells + 8; omega) (by show slots + 6 + 6 * 0 ≤ slots + 48; omega) ?_
  refine lv_istore (lv' := [(6, .int (Int32.ofInt y)), (5, .int r), (4, .int (Int32.ofInt (i : Int))), (0, .ref b), (1, .ref (rho s.heap.size 149)), (2, .ref (rho s.heap.size 175)), (3, .ref (s.heap.size + 176))]) hx hb dL_law_757 hl (by decide) rfl (fun ls hl => ?_)
  exact l_tailI C ⟨hB2, hI, hO⟩ hS (by decide) (by decide) hrel hag hl.1 (lv_at hl 5 rfl) (lv_at hl 6 rfl) (lv_at hl 1 rfl) (lv_at hl 0 rfl) dL_law_759 dL_law_760 dL_law_763 dL_law_765 dL_law_770 dL_law_772 dL_law_775 dL_law_776 dL_law_777 dL_law_778 dL_law_780 dL_law_781 dL_law_782 dL_law_787 (by decide) (by omega) (by omega) (fun H3 locs3 h3 hS3 => kk u2 _ H3 locs3 ls h3 hS3 (lv_sub hl [2, 3, 4, 5, 6] rfl))
set_option maxHeartbeats 4000000 in
set_option maxRecDepth 100000 in
theorem cs_11 {p : Program} {l : Launch} {e : Env} {s : State} {m : MethodId} {args : Array Value} {below : List Frame} {meth : Method} {c : Code} {H : Heap} {locs : List Loc} {cells slots : Nat} {Q : State → Prop} {ls : Array Slot} {D : va_G} {cA : Nat → ClassId} {sg : Nat → Nat} {b L i : Nat} {xs : Nat → Int32} {M : Mem} {z : Int64} (C : LC p l s m args c sg cA D b L xs) (hi : i + 5 ≤ L) (hc : cells + 8 ≤ 603072) (hs : slots + 48 ≤ 7215210) (hL : LWS cA D s.heap.size M z H) (hS : va_S (Al s.heap.size) s.heap H locs) (hl : lv_has ls 9 (LV b s.heap.size i))
    (kk : ∀ (M1 : Mem) (z1 : Int64) (H1 : Heap) (locs1 : List Loc) (ls1 : Array Slot), LWS cA D s.heap.size M1 z1 H1 → va_S (Al s.heap.size) s.heap H1 locs1 → lv_has ls1 9 (LV b s.heap.size i) → W p l e room_1 s m args below meth c H1 locs1 (cells + 8) (slots + 48) Q (F0 m 2729 ls1 [])) : W p l e room_1 s m args below meth c H locs cells slots Q (F0 m 790 ls []) := by
  obtain ⟨htr, hx, hb, hml, hown, hts, hX, hbl, hfix, hnc, hLL⟩ := id C
  obtain ⟨hW, hI, hO⟩ := hL
  refine lv_aload_n hx hb dL_law_790 rfl (lv_at hl 2 rfl) ?_
  refine l_arg C hS 1 (lv_at hl 1 rfl) (lv_at hl 0 rfl) hi (by decide) dL_law_791 dL_law_792 dL_law_794 dL_law_795 dL_law_796 ?_
  refine l_arg C hS 2 (lv_at hl 1 rfl) (lv_at hl 0 rfl) hi (by decide) dL_law_797 dL_law_798 dL_law_800 dL_law_801 dL_law_802 ?_
  refine lv_aload_n hx hb dL_law_803 rfl (lv_at hl 4 rfl) ?_
  have hca := (h_jobAt (sc_r xs (i + 1)) (sc_r xs (i + 2))) M hI
  refine va_calli (vx_runSW (As := [.ref (rho s.heap.size 149), .int (Int32.ofInt (sc xs (i + 1))), .int (Int32.ofInt (sc xs (i + 2))), .ref (s.heap.size + 176)]) (rest := []) ⟨hx, hb, hml, hown, hts⟩ (hp_jobAt (sg := sg) (cA := cA) (D := D) (sz0 := s.heap.size) (z := z) htr hca (fun e9 M9 q9 => agr_es q9)) (vx_cwSW 4 hts (wsH_good wL_88 wL_89 wL_7 wL_90) rfl rfl rfl (by decide +kernel) ⟨Nat.le_of_ble_eq_true rfl, Nat.le_of_ble_eq_true rfl⟩) ⟨lPre_blind, fun U hU hW9 => ⟨rfl, ⟨(by rw [hU]; exact hW.1), hW.2.1, (by rw [hU]; exact hW.2.2), hfix.warm hW9 (fun q q1 q2 => by rw [hU]; exact hS.2.1 q q1 (fun h => absurd h (Nat.not_le.mpr q1)))⟩, (by rw [hU]; exact hO), hnc.moved hW9.alike⟩⟩ rfl rfl hl.1 rfl (lv_room (Nat.le_of_ble_eq_true rfl)) dL_law_804 ⟨by show cells + 1 ≤ 603072; omega, by show slots + 6 ≤ 7215210; omega⟩) hS (fun q _ h => h) (fun q h => h) (fun r u t H1 locs1 ht hal hp hB hz1 hfr hS => ?_)
  obtain ⟨r0, hq, hrel⟩ := hp.rel
  obtain ⟨hW, hO⟩ := hB
  rw [ht] at hW hO
  refine lv_istore (lv' := [(5, .int r), (4, .int (Int32.ofInt (i : Int))), (0, .ref b), (1, .ref (rho s.heap.size 149)), (2, .ref (rho s.heap.size 175)), (3, .ref (s.heap.size + 176))]) hx hb dL_law_807 hl (by decide) rfl (fun ls hl => ?_)
  refine lv_aload_n hx hb dL_law_809 rfl (lv_at hl 4 rfl) ?_
  refine l_arg C hS 1 (lv_at hl 2 rfl) (lv_at hl 1 rfl) hi (by decide) dL_law_810 dL_law_811 dL_law_813 dL_law_814 dL_law_815 ?_
  refine l_arg C hS 2 (lv_at hl 2 rfl) (lv_at hl 1 rfl) hi (by decide) dL_law_816 dL_law_817 dL_law_819 dL_law_820 dL_law_821 ?_
  have hM := snd (ρ := rho s.heap.size) (sg := sg) (cA := cA) (D := D) (sz0 := s.heap.size) htr 10 cM_jobAt _ _ _ hq nM_jobAt rfl
  have hrv := va_recv hfix.1 hW.1 (gCl_at 12 (by decide)) (wWs_ob (show wOb 175 = 12 + 1 from by decide +kernel))
  refine vx_calli (vx_runV (As := [.int (Int32.ofInt (sc xs (i + 1))), .int (Int32.ofInt (sc xs (i + 2)))]) (rest := []) ⟨hx, hb, hml, hown, hts⟩ hM (cwV 2 hts (wsV_good wL_91 wL_92 wL_93 wL_3 wL_94) rfl rfl rfl (by decide +kernel) ⟨Nat.le_of_ble_eq_true rfl, Nat.le_of_ble_eq_true rfl⟩) ⟨wPic_blind, hrv, fun U hU hW9 => ⟨rfl, (by rw [hU]; exact hW.1), hW.2.1, (by rw [hU]; exact hW.2.2), hfix.warm hW9 (fun q q1 q2 => by rw [hU]; exact hS.2.1 q q1 (fun h => absurd h (Nat.not_le.mpr q1)))⟩⟩ rfl rfl hl.1 rfl (lv_room (Nat.le_of_ble_eq_true rfl)) dL_law_822 ⟨by show cells + 1 + 0 ≤ 603072; omega, by show slots + 6 + 6 * 0 ≤ 7215210; omega⟩) hS (fun q _ h => h.1) (fun q h => h.1) (fun q _ h => h.1) (fun E ce q9 u2 t2 H2 locs2 ht2 hal2 hp2 => absurd hp2.2 agr.no) (fun r2 u2 t2 H2 locs2 ht2 hal2 hp2 hB2 hz2 hfr2 hS => ?_)
  obtain ⟨y, rfl, hI, hag⟩ := hp2
  rw [ht2] at hB2
  have hO := hO.kept hfr2
  refine W.widen (k := cells + 8) (n := slots + 48) (by show cells + 1 + 0 ≤ cells + 8; omega) (by show slots + 6 + 6 * 0 ≤ slots + 48; omega) ?_
  refine lv_istore (lv' := [(6, .int (Int32.ofInt y)), (5, .int r), (4, .int (Int32.ofInt (i : Int))), (0, .ref b), (1, .ref (rho s.heap.size 149)), (2, .ref (rho s.heap.size 175)), (3, .ref (s.heap.size + 176))]) hx hb dL_law_825 hl (by decide) rfl (fun ls hl => ?_)
  exact l_tailI C ⟨hB2, hI, hO⟩ hS (by decide) (by decide) hrel hag hl.1 (lv_at hl 5 rfl) (lv_at hl 6 rfl) (lv_at hl 1 rfl) (lv_at hl 0 rfl) dL_law_827 dL_law_828 dL_law_831 dL_law_833 dL_law_838 dL_law_840 dL_law_843 dL_law_844 dL_law_845 dL_law_846 dL_law_848 dL_law_849 dL_law_850 dL_law_855 (by decide) (by omega) (by omega) (fun H3 locs3 h3 hS3 => kk u2 _ H3 locs3 ls h3 hS3 (lv_sub hl [2, 3, 4, 5, 6] rfl))
set_option maxHeartbeats 4000000 in
set_option maxRecDepth 100000 in
theorem cs_12 {p : Program} {l : Launch} {e : Env} {s : State} {m : MethodId} {args : Array Value} {below : List Frame} {meth : Method} {c : Code} {H : Heap} {locs : List Loc} {cells slots : Nat} {Q : State → Prop} {ls : Array Slot} {D : va_G} {cA : Nat → ClassId} {sg : Nat → Nat} {b L i : Nat} {xs : Nat → Int32} {M : Mem} {z : Int64} (C : LC p l s m args c sg cA D b L xs) (hi : i + 5 ≤ L) (hc : cells + 8 ≤ 603072) (hs : slots + 48 ≤ 7215210) (hL : LWS cA D s.heap.size M z H) (hS : va_S (Al s.heap.size) s.heap H locs) (hl : lv_has ls 9 (LV b s.heap.size i))
    (kk : ∀ (M1 : Mem) (z1 : Int64) (H1 : Heap) (locs1 : List Loc) (ls1 : Array Slot), LWS cA D s.heap.size M1 z1 H1 → va_S (Al s.heap.size) s.heap H1 locs1 → lv_has ls1 9 (LV b s.heap.size i) → W p l e room_1 s m args below meth c H1 locs1 (cells + 8) (slots + 48) Q (F0 m 2729 ls1 [])) : W p l e room_1 s m args below meth c H locs cells slots Q (F0 m 858 ls []) := by
  obtain ⟨htr, hx, hb, hml, hown, hts, hX, hbl, hfix, hnc, hLL⟩ := id C
  obtain ⟨hW, hI, hO⟩ := hL
  refine lv_aload_n hx hb dL_law_858 rfl (lv_at hl 2 rfl) ?_
  refine l_arg C hS 1 (lv_at hl 1 rfl) (lv_at hl 0 rfl) hi (by decide) dL_law_859 dL_law_860 dL_law_862 dL_law_863 dL_law_864 ?_
  have hca := (h_numberAt (sc_r xs (i + 1))) M hI
  have hM := snd (ρ := rho s.heap.size) (sg := sg) (cA := cA) (D := D) (sz0 := s.heap.size) htr 8 cQ_numberAt _ _ _ hca nQ_numberAt rfl
  have hrv := va_recv hfix.1 hW.1 (gCl_at 11 (by decide)) (wWs_ob (show wOb 149 = 11 + 1 from by decide +kernel))
  refine vx_calli (vx_runV (As := [.int (Int32.ofInt (sc xs (i + 1)))]) (rest := []) ⟨hx, hb, hml, hown, hts⟩ hM (cwV 1 hts (wsV_good wL_95 wL_96 wL_97 wL_31 wL_98) rfl rfl rfl (by decide +kernel) ⟨Nat.le_of_ble_eq_true rfl, Nat.le_of_ble_eq_true rfl⟩) ⟨wPic_blind, hrv, fun U hU hW9 => ⟨rfl, (by rw [hU]; exact hW.1), hW.2.1, (by rw [hU]; exact hW.2.2), hfix.warm hW9 (fun q q1 q2 => by rw [hU]; exact hS.2.1 q q1 (fun h => absurd h (Nat.not_le.mpr q1)))⟩⟩ rfl rfl hl.1 rfl (lv_room (Nat.le_of_ble_eq_true rfl)) dL_law_865 ⟨by show cells + 0 ≤ 603072; omega, by show slots + 6 * 0 ≤ 7215210; omega⟩) hS (fun q _ h => h.1) (fun q h => h.1) (fun q _ h => h.1) (fun E ce q9 u2 t2 H2 locs2 ht2 hal2 hp2 => absurd (agr_es hp2) List.not_mem_nil) (fun r u t H1 locs1 ht hal hp hB hz1 hfr hS => ?_)
  obtain ⟨x, rfl, hq⟩ := hp
  rw [ht] at hB
  have hO := hO.kept hfr
  have hW := hB
  refine lv_aload_n hx hb dL_law_868 rfl (lv_at hl 3 rfl) ?_
  refine l_arg C hS 1 (lv_at hl 1 rfl) (lv_at hl 0 rfl) hi (by decide) dL_law_869 dL_law_870 dL_law_872 dL_law_873 dL_law_874 ?_
  have hM := snd (ρ := rho s.heap.size) (sg := sg) (cA := cA) (D := D) (sz0 := s.heap.size) htr 10 cM_numberAt _ _ _ hq nM_numberAt rfl
  have hrv := va_recv hfix.1 hW.1 (gCl_at 12 (by decide)) (wWs_ob (show wOb 175 = 12 + 1 from by decide +kernel))
  refine vx_calli (vx_runV (As := [.int (Int32.ofInt (sc xs (i + 1)))]) (rest := [.int (Int32.ofInt x)]) ⟨hx, hb, hml, hown, hts⟩ hM (cwV 1 hts (wsV_good wL_99 wL_100 wL_101 wL_3 wL_102) rfl rfl rfl (by decide +kernel) ⟨Nat.le_of_ble_eq_true rfl, Nat.le_of_ble_eq_true rfl⟩) ⟨wPic_blind, hrv, fun U hU hW9 => ⟨rfl, (by rw [hU]; exact hW.1), hW.2.1, (by rw [hU]; exact hW.2.2), hfix.warm hW9 (fun q q1 q2 => by rw [hU]; exact hS.2.1 q q1 (fun h => absurd h (Nat.not_le.mpr q1)))⟩⟩ rfl rfl hl.1 rfl (lv_room (Nat.le_of_ble_eq_true rfl)) dL_law_875 ⟨by show cells + 0 + 0 ≤ 603072; omega, by show slots + 6 * 0 + 6 * 0 ≤ 7215210; omega⟩) hS (fun q _ h => h.1) (fun q h => h.1) (fun q _ h => h.1) (fun E ce q9 u2 t2 H2 locs2 ht2 hal2 hp2 => absurd hp2.2 agr.no) (fun r2 u2 t2 H2 locs2 ht2 hal2 hp2 hB2 hz2 hfr2 hS => ?_)
  obtain ⟨y, rfl, hI, hag⟩ := hp2
  rw [ht2] at hB2
  have hO := hO.kept hfr2
  have hy := agr_val hag
  subst hy
  refine W.widen (k := cells + 8) (n := slots + 48) (by show cells + 0 + 0 ≤ cells + 8; omega) (by show slots + 6 * 0 + 6 * 0 ≤ slots + 48; omega) ?_
  exact lv_icmp_eq (tgt := 2729) hx hb dL_law_878 (by decide) (fun _ => kk u2 z H2 locs2 ls ⟨hB2, hI, hO⟩ hS hl) (fun h => absurd rfl h)
set_option maxHeartbeats 4000000 in
set_option maxRecDepth 100000 in
theorem cs_13 {p : Program} {l : Launch} {e : Env} {s : State} {m : MethodId} {args : Array Value} {below : List Frame} {meth : Method} {c : Code} {H : Heap} {locs : List Loc} {cells slots : Nat} {Q : State → Prop} {ls : Array Slot} {D : va_G} {cA : Nat → ClassId} {sg : Nat → Nat} {b L i : Nat} {xs : Nat → Int32} {M : Mem} {z : Int64} (C : LC p l s m args c sg cA D b L xs) (hi : i + 5 ≤ L) (hc : cells + 8 ≤ 603072) (hs : slots + 48 ≤ 7215210) (hL : LWS cA D s.heap.size M z H) (hS : va_S (Al s.heap.size) s.heap H locs) (hl : lv_has ls 9 (LV b s.heap.size i))
    (kk : ∀ (M1 : Mem) (z1 : Int64) (H1 : Heap) (locs1 : List Loc) (ls1 : Array Slot), LWS cA D s.heap.size M1 z1 H1 → va_S (Al s.heap.size) s.heap H1 locs1 → lv_has ls1 9 (LV b s.heap.size i) → W p l e room_1 s m args below meth c H1 locs1 (cells + 8) (slots + 48) Q (F0 m 2729 ls1 [])) : W p l e room_1 s m args below meth c H locs cells slots Q (F0 m 883 ls []) := by
  obtain ⟨htr, hx, hb, hml, hown, hts, hX, hbl, hfix, hnc, hLL⟩ := id C
  obtain ⟨hW, hI, hO⟩ := hL
  refine lv_aload_n hx hb dL_law_883 rfl (lv_at hl 2 rfl) ?_
  refine l_arg C hS 1 (lv_at hl 1 rfl) (lv_at hl 0 rfl) hi (by decide) dL_law_884 dL_law_885 dL_law_887 dL_law_888 dL_law_889 ?_
  refine lv_aload_n hx hb dL_law_890 rfl (lv_at hl 4 rfl) ?_
  have hca := (h_meanTime (sc_r xs (i + 1))) M hI
  refine va_calli (vx_runSW (As := [.ref (rho s.heap.size 149), .int (Int32.ofInt (sc xs (i + 1))), .ref (s.heap.size + 176)]) (rest := []) ⟨hx, hb, hml, hown, hts⟩ (hp_meanTime (sg := sg) (cA := cA) (D := D) (sz0 := s.heap.size) (z := z) htr hca (fun e9 M9 q9 => agr_es q9)) (vx_cwSW 3 hts (wsH_good wL_103 wL_104 wL_7 wL_105) rfl rfl rfl (by decide +kernel) ⟨Nat.le_of_ble_eq_true rfl, Nat.le_of_ble_eq_true rfl⟩) ⟨lPre_blind, fun U hU hW9 => ⟨rfl, ⟨(by rw [hU]; exact hW.1), hW.2.1, (by rw [hU]; exact hW.2.2), hfix.warm hW9 (fun q q1 q2 => by rw [hU]; exact hS.2.1 q q1 (fun h => absurd h (Nat.not_le.mpr q1)))⟩, (by rw [hU]; exact hO), hnc.moved hW9.alike⟩⟩ rfl rfl hl.1 rfl (lv_room (Nat.le_of_ble_eq_true rfl)) dL_law_891 ⟨by show cells + 1 ≤ 603072; omega, by show slots + 6 ≤ 7215210; omega⟩) hS (fun q _ h => h) (fun q h => h) (fun r u t H1 locs1 ht hal hp hB hz1 hfr hS => ?_)
  obtain ⟨r0, hq, hrel⟩ := hp.rel
  obtain ⟨hW, hO⟩ := hB
  rw [ht] at hW hO
  refine lv_istore (lv' := [(5, .int r), (4, .int (Int32.ofInt (i : Int))), (0, .ref b), (1, .ref (rho s.heap.size 149)), (2, .ref (rho s.heap.size 175)), (3, .ref (s.heap.size + 176))]) hx hb dL_law_894 hl (by decide) rfl (fun ls hl => ?_)
  refine lv_aload_n hx hb dL_law_896 rfl (lv_at hl 4 rfl) ?_
  refine l_arg C hS 1 (lv_at hl 2 rfl) (lv_at hl 1 rfl) hi (by decide) dL_law_897 dL_law_898 dL_law_900 dL_law_901 dL_law_902 ?_
  have hM := snd (ρ := rho s.heap.size) (sg := sg) (cA := cA) (D := D) (sz0 := s.heap.size) htr 10 cM_meanTime _ _ _ hq nM_meanTime rfl
  have hrv := va_recv hfix.1 hW.1 (gCl_at 12 (by decide)) (wWs_ob (show wOb 175 = 12 + 1 from by decide +kernel))
  refine vx_calli (vx_runV (As := [.int (Int32.ofInt (sc xs (i + 1)))]) (rest := []) ⟨hx, hb, hml, hown, hts⟩ hM (cwV 1 hts (wsV_good wL_106 wL_107 wL_108 wL_3 wL_109) rfl rfl rfl (by decide +kernel) ⟨Nat.le_of_ble_eq_true rfl, Nat.le_of_ble_eq_true rfl⟩) ⟨wPic_blind, hrv, fun U hU hW9 => ⟨rfl, (by rw [hU]; exact hW.1), hW.2.1, (by rw [hU]; exact hW.2.2), hfix.warm hW9 (fun q q1 q2 => by rw [hU]; exact hS.2.1 q q1 (fun h => absurd h (Nat.not_le.mpr q1)))⟩⟩ rfl rfl hl.1 rfl (lv_room (Nat.le_of_ble_eq_true rfl)) dL_law_903 ⟨by show cells + 1 + 0 ≤ 603072; omega, by show slots + 6 + 6 * 0 ≤ 7215210; omega⟩) hS (fun q _ h => h.1) (fun q h => h.1) (fun q _ h => h.1) (fun E ce q9 u2 t2 H2 locs2 ht2 hal2 hp2 => absurd hp2.2 agr.no) (fun r2 u2 t2 H2 locs2 ht2 hal2 hp2 hB2 hz2 hfr2 hS => ?_)
  obtain ⟨y, rfl, hI, hag⟩ := hp2
  rw [ht2] at hB2
  have hO := hO.kept hfr2
  refine W.widen (k := cells + 8) (n := slots + 48) (by show cells + 1 + 0 ≤ cells + 8; omega) (by show slots + 6 + 6 * 0 ≤ slots + 48; omega) ?_
  refine lv_istore (lv' := [(6, .int (Int32.ofInt y)), (5, .int r), (4, .int (Int32.ofInt (i : Int))), (0, .ref b), (1, .ref (rho s.heap.size 149)), (2, .ref (rho s.heap.size 175)), (3, .ref (s.heap.size + 176))]) hx hb dL_law_906 hl (by decide) rfl (fun ls hl => ?_)
  exact l_tailI C ⟨hB2, hI, hO⟩ hS (by decide) (by decide) hrel hag hl.1 (lv_at hl 5 rfl) (lv_at hl 6 rfl) (lv_at hl 1 rfl) (lv_at hl 0 rfl) dL_law_908 dL_law_909 dL_law_912 dL_law_914 dL_law_919 dL_law_921 dL_law_924 dL_law_925 dL_law_926 dL_law_927 dL_law_929 dL_law_930 dL_law_931 dL_law_936 (by decide) (by omega) (by omega) (fun H3 locs3 h3 hS3 => kk u2 _ H3 locs3 ls h3 hS3 (lv_sub hl [2, 3, 4, 5, 6] rfl))
set_option maxHeartbeats 4000000 in
set_option maxRecDepth 100000 in
theorem cs_14 {p : Program} {l : Launch} {e : Env} {s : State} {m : MethodId} {args : Array Value} {below : List Frame} {meth : Method} {c : Code} {H : Heap} {locs : List Loc} {cells slots : Nat} {Q : State → Prop} {ls : Array Slot} {D : va_G} {cA : Nat → ClassId} {sg : Nat → Nat} {b L i : Nat} {xs : Nat → Int32} {M : Mem} {z : Int64} (C : LC p l s m args c sg cA D b L xs) (hi : i + 5 ≤ L) (hc : cells + 8 ≤ 603072) (hs : slots + 48 ≤ 7215210) (hL : LWS cA D s.heap.size M z H) (hS : va_S (Al s.heap.size) s.heap H locs) (hl : lv_has ls 9 (LV b s.heap.size i))
    (kk : ∀ (M1 : Mem) (z1 : Int64) (H1 : Heap) (locs1 : List Loc) (ls1 : Array Slot), LWS cA D s.heap.size M1 z1 H1 → va_S (Al s.heap.size) s.heap H1 locs1 → lv_has ls1 9 (LV b s.heap.size i) → W p l e room_1 s m args below meth c H1 locs1 (cells + 8) (slots + 48) Q (F0 m 2729 ls1 [])) : W p l e room_1 s m args below meth c H locs cells slots Q (F0 m 939 ls []) := by
  obtain ⟨htr, hx, hb, hml, hown, hts, hX, hbl, hfix, hnc, hLL⟩ := id C
  obtain ⟨hW, hI, hO⟩ := hL
  refine lv_aload_n hx hb dL_law_939 rfl (lv_at hl 2 rfl) ?_
  refine l_arg C hS 1 (lv_at hl 1 rfl) (lv_at hl 0 rfl) hi (by decide) dL_law_940 dL_law_941 dL_law_943 dL_law_944 dL_law_945 ?_
  refine l_bool hx hb (sc_r xs (i + 1)) dL_law_946 dL_law_949 dL_law_950 dL_law_953 ?_
  have hca := (h_sumTimes (bI_r (sc xs (i + 1)))) M hI
  have hM := snd (ρ := rho s.heap.size) (sg := sg) (cA := cA) (D := D) (sz0 := s.heap.size) htr 8 cQ_sumTimes _ _ _ hca nQ_sumTimes rfl
  have hrv := va_recv hfix.1 hW.1 (gCl_at 11 (by decide)) (wWs_ob (show wOb 149 = 11 + 1 from by decide +kernel))
  refine vx_calli (vx_runV (As := [.int (Int32.ofInt (bI (sc xs (i + 1))))]) (rest := []) ⟨hx, hb, hml, hown, hts⟩ hM (cwV 1 hts (wsV_good wL_110 wL_111 wL_112 wL_31 wL_113) rfl rfl rfl (by decide +kernel) ⟨Nat.le_of_ble_eq_true rfl, Nat.le_of_ble_eq_true rfl⟩) ⟨wPic_blind, hrv, fun U hU hW9 => ⟨rfl, (by rw [hU]; exact hW.1), hW.2.1, (by rw [hU]; exact hW.2.2), hfix.warm hW9 (fun q q1 q2 => by rw [hU]; exact hS.2.1 q q1 (fun h => absurd h (Nat.not_le.mpr q1)))⟩⟩ rfl rfl hl.1 rfl (lv_room (Nat.le_of_ble_eq_true rfl)) dL_law_954 ⟨by show cells + 0 ≤ 603072; omega, by show slots + 6 * 0 ≤ 7215210; omega⟩) hS (fun q _ h => h.1) (fun q h => h.1) (fun q _ h => h.1) (fun E ce q9 u2 t2 H2 locs2 ht2 hal2 hp2 => absurd (agr_es hp2) List.not_mem_nil) (fun r u t H1 locs1 ht hal hp hB hz1 hfr hS => ?_)
  obtain ⟨x, rfl, hq⟩ := hp
  rw [ht] at hB
  have hO := hO.kept hfr
  have hW := hB
  refine lv_aload_n hx hb dL_law_957 rfl (lv_at hl 3 rfl) ?_
  refine l_arg C hS 1 (lv_at hl 1 rfl) (lv_at hl 0 rfl) hi (by decide) dL_law_958 dL_law_959 dL_law_961 dL_law_962 dL_law_963 ?_
  refine l_bool hx hb (sc_r xs (i + 1)) dL_law_964 dL_law_967 dL_law_968 dL_law_971 ?_
  have hM := snd (ρ := rho s.heap.size) (sg := sg) (cA := cA) (D := D) (sz0 := s.heap.size) htr 10 cM_sumTimes _ _ _ hq nM_sumTimes rfl
  have hrv := va_recv hfix.1 hW.1 (gCl_at 12 (by decide)) (wWs_ob (show wOb 175 = 12 + 1 from by decide +kernel))
  refine vx_calli (vx_runV (As := [.int (Int32.ofInt (bI (sc xs (i + 1))))]) (rest := [.int (Int32.ofInt x)]) ⟨hx, hb, hml, hown, hts⟩ hM (cwV 1 hts (wsV_good wL_114 wL_115 wL_116 wL_3 wL_117) rfl rfl rfl (by decide +kernel) ⟨Nat.le_of_ble_eq_true rfl, Nat.le_of_ble_eq_true rfl⟩) ⟨wPic_blind, hrv, fun U hU hW9 => ⟨rfl, (by rw [hU]; exact hW.1), hW.2.1, (by rw [hU]; exact hW.2.2), hfix.warm hW9 (fun q q1 q2 => by rw [hU]; exact hS.2.1 q q1 (fun h => absurd h (Nat.not_le.mpr q1)))⟩⟩ rfl rfl hl.1 rfl (lv_room (Nat.le_of_ble_eq_true rfl)) dL_law_972 ⟨by show cells + 0 + 0 ≤ 603072; omega, by show slots + 6 * 0 + 6 * 0 ≤ 7215210; omega⟩) hS (fun q _ h => h.1) (fun q h => h.1) (fun q _ h => h.1) (fun E ce q9 u2 t2 H2 locs2 ht2 hal2 hp2 => absurd hp2.2 agr.no) (fun r2 u2 t2 H2 locs2 ht2 hal2 hp2 hB2 hz2 hfr2 hS => ?_)
  obtain ⟨y, rfl, hI, hag⟩ := hp2
  rw [ht2] at hB2
  have hO := hO.kept hfr2
  have hy := agr_val hag
  subst hy
  refine W.widen (k := cells + 8) (n := slots + 48) (by show cells + 0 + 0 ≤ cells + 8; omega) (by show slots + 6 * 0 + 6 * 0 ≤ slots + 48; omega) ?_
  exact lv_icmp_eq (tgt := 2729) hx hb dL_law_975 (by decide) (fun _ => kk u2 z H2 locs2 ls ⟨hB2, hI, hO⟩ hS hl) (fun h => absurd rfl h)
set_option maxHeartbeats 4000000 in
set_option maxRecDepth 100000 in
theorem cs_15 {p : Program} {l : Launch} {e : Env} {s : State} {m : MethodId} {args : Array Value} {below : List Frame} {meth : Method} {c : Code} {H : Heap} {locs : List Loc} {cells slots : Nat} {Q : State → Prop} {ls : Array Slot} {D : va_G} {cA : Nat → ClassId} {sg : Nat → Nat} {b L i : Nat} {xs : Nat → Int32} {M : Mem} {z : Int64} (C : LC p l s m args c sg cA D b L xs) (hi : i + 5 ≤ L) (hc : cells + 8 ≤ 603072) (hs : slots + 48 ≤ 7215210) (hL : LWS cA D s.heap.size M z H) (hS : va_S (Al s.heap.size) s.heap H locs) (hl : lv_has ls 9 (LV b s.heap.size i))
    (kk : ∀ (M1 : Mem) (z1 : Int64) (H1 : Heap) (locs1 : List Loc) (ls1 : Array Slot), LWS cA D s.heap.size M1 z1 H1 → va_S (Al s.heap.size) s.heap H1 locs1 → lv_has ls1 9 (LV b s.heap.size i) → W p l e room_1 s m args below meth c H1 locs1 (cells + 8) (slots + 48) Q (F0 m 2729 ls1 [])) : W p l e room_1 s m args below meth c H locs cells slots Q (F0 m 980 ls []) := by
  obtain ⟨htr, hx, hb, hml, hown, hts, hX, hbl, hfix, hnc, hLL⟩ := id C
  obtain ⟨hW, hI, hO⟩ := hL
  refine lv_aload_n hx hb dL_law_980 rfl (lv_at hl 2 rfl) ?_
  refine l_arg C hS 1 (lv_at hl 1 rfl) (lv_at hl 0 rfl) hi (by decide) dL_law_981 dL_law_982 dL_law_984 dL_law_985 dL_law_986 ?_
  refine l_arg C hS 2 (lv_at hl 1 rfl) (lv_at hl 0 rfl) hi (by decide) dL_law_987 dL_law_988 dL_law_990 dL_law_991 dL_law_992 ?_
  refine lv_aload_n hx hb dL_law_993 rfl (lv_at hl 4 rfl) ?_
  have hca := (h_states (sc_r xs (i + 1)) (sc_r xs (i + 2))) M hI
  refine va_calli (vx_runSW (As := [.ref (rho s.heap.size 149), .int (Int32.ofInt (sc xs (i + 1))), .int (Int32.ofInt (sc xs (i + 2))), .ref (s.heap.size + 176)]) (rest := []) ⟨hx, hb, hml, hown, hts⟩ (hp_states (sg := sg) (cA := cA) (D := D) (sz0 := s.heap.size) (z := z) htr hca (fun e9 M9 q9 => agr_es q9)) (vx_cwSW 4 hts (wsH_good wL_118 wL_119 wL_7 wL_120) rfl rfl rfl (by decide +kernel) ⟨Nat.le_of_ble_eq_true rfl, Nat.le_of_ble_eq_true rfl⟩) ⟨lPre_blind, fun U hU hW9 => ⟨rfl, ⟨(by rw [hU]; exact hW.1), hW.2.1, (by rw [hU]; exact hW.2.2), hfix.warm hW9 (fun q q1 q2 => by rw [hU]; exact hS.2.1 q q1 (fun h => absurd h (Nat.not_le.mpr q1)))⟩, (by rw [hU]; exact hO), hnc.moved hW9.alike⟩⟩ rfl rfl hl.1 rfl (lv_room (Nat.le_of_ble_eq_true rfl)) dL_law_994 ⟨by show cells + 1 ≤ 603072; omega, by show slots + 6 ≤ 7215210; omega⟩) hS (fun q _ h => h) (fun q h => h) (fun r u t H1 locs1 ht hal hp hB hz1 hfr hS => ?_)
  obtain ⟨r0, hq, hrel⟩ := hp.rel
  obtain ⟨hW, hO⟩ := hB
  rw [ht] at hW hO
  refine lv_istore (lv' := [(5, .int r), (4, .int (Int32.ofInt (i : Int))), (0, .ref b), (1, .ref (rho s.heap.size 149)), (2, .ref (rho s.heap.size 175)), (3, .ref (s.heap.size + 176))]) hx hb dL_law_997 hl (by decide) rfl (fun ls hl => ?_)
  refine lv_aload_n hx hb dL_law_999 rfl (lv_at hl 4 rfl) ?_
  refine l_arg C hS 1 (lv_at hl 2 rfl) (lv_at hl 1 rfl) hi (by decide) dL_law_1000 dL_law_1001 dL_law_1003 dL_law_1004 dL_law_1005 ?_
  refine l_arg C hS 2 (lv_at hl 2 rfl) (lv_at hl 1 rfl) hi (by decide) dL_law_1006 dL_law_1007 dL_law_1009 dL_law_1010 dL_law_1011 ?_
  have hM := snd (ρ := rho s.heap.size) (sg := sg) (cA := cA) (D := D) (sz0 := s.heap.size) htr 10 cM_states _ _ _ hq nM_states rfl
  have hrv := va_recv hfix.1 hW.1 (gCl_at 12 (by decide)) (wWs_ob (show wOb 175 = 12 + 1 from by decide +kernel))
  refine vx_calli (vx_runV (As := [.int (Int32.ofInt (sc xs (i + 1))), .int (Int32.ofInt (sc xs (i + 2)))]) (rest := []) ⟨hx, hb, hml, hown, hts⟩ hM (cwV 2 hts (wsV_good wL_121 wL_122 wL_123 wL_3 wL_124) rfl rfl rfl (by decide +kernel) ⟨Nat.le_of_ble_eq_true rfl, Nat.le_of_ble_eq_true rfl⟩) ⟨wPic_blind, hrv, fun U hU hW9 => ⟨rfl, (by rw [hU]; exact hW.1), hW.2.1, (by rw [hU]; exact hW.2.2), hfix.warm hW9 (fun q q1 q2 => by rw [hU]; exact hS.2.1 q q1 (fun h => absurd h (Nat.not_le.mpr q1)))⟩⟩ rfl rfl hl.1 rfl (lv_room (Nat.le_of_ble_eq_true rfl)) dL_law_1012 ⟨by show cells + 1 + 0 ≤ 603072; omega, by show slots + 6 + 6 * 0 ≤ 7215210; omega⟩) hS (fun q _ h => h.1) (fun q h => h.1) (fun q _ h => h.1) (fun E ce q9 u2 t2 H2 locs2 ht2 hal2 hp2 => absurd hp2.2 agr.no) (fun r2 u2 t2 H2 locs2 ht2 hal2 hp2 hB2 hz2 hfr2 hS => ?_)
  obtain ⟨y, rfl, hI, hag⟩ := hp2
  rw [ht2] at hB2
  have hO := hO.kept hfr2
  refine W.widen (k := cells + 8) (n := slots + 48) (by show cells + 1 + 0 ≤ cells + 8; omega) (by show slots + 6 + 6 * 0 ≤ slots + 48; omega) ?_
  refine lv_istore (lv' := [(6, .int (Int32.ofInt y)), (5, .int r), (4, .int (Int32.ofInt (i : Int))), (0, .ref b), (1, .ref (rho s.heap.size 149)), (2, .ref (rho s.heap.size 175)), (3, .ref (s.heap.size + 176))]) hx hb dL_law_1015 hl (by decide) rfl (fun ls hl => ?_)
  exact l_tailI C ⟨hB2, hI, hO⟩ hS (by decide) (by decide) hrel hag hl.1 (lv_at hl 5 rfl) (lv_at hl 6 rfl) (lv_at hl 1 rfl) (lv_at hl 0 rfl) dL_law_1017 dL_law_1018 dL_law_1021 dL_law_1023 dL_law_1028 dL_law_1030 dL_law_1033 dL_law_1034 dL_law_1035 dL_law_1036 dL_law_1038 dL_law_1039 dL_law_1040 dL_law_1045 (by decide) (by omega) (by omega) (fun H3 locs3 h3 hS3 => kk u2 _ H3 locs3 ls h3 hS3 (lv_sub hl [2, 3, 4, 5, 6] rfl))
set_option maxHeartbeats 4000000 in
set_option maxRecDepth 100000 in
theorem cs_16 {p : Program} {l : Launch} {e : Env} {s : State} {m : MethodId} {args : Array Value} {below : List Frame} {meth : Method} {c : Code} {H : Heap} {locs : List Loc} {cells slots : Nat} {Q : State → Prop} {ls : Array Slot} {D : va_G} {cA : Nat → ClassId} {sg : Nat → Nat} {b L i : Nat} {xs : Nat → Int32} {M : Mem} {z : Int64} (C : LC p l s m args c sg cA D b L xs) (hi : i + 5 ≤ L) (hc : cells + 8 ≤ 603072) (hs : slots + 48 ≤ 7215210) (hL : LWS cA D s.heap.size M z H) (hS : va_S (Al s.heap.size) s.heap H locs) (hl : lv_has ls 9 (LV b s.heap.size i))
    (kk : ∀ (M1 : Mem) (z1 : Int64) (H1 : Heap) (locs1 : List Loc) (ls1 : Array Slot), LWS cA D s.heap.size M1 z1 H1 → va_S (Al s.heap.size) s.heap H1 locs1 → lv_has ls1 9 (LV b s.heap.size i) → W p l e room_1 s m args below meth c H1 locs1 (cells + 8) (slots + 48) Q (F0 m 2729 ls1 [])) : W p l e room_1 s m args below meth c H locs cells slots Q (F0 m 1048 ls []) := by
  obtain ⟨htr, hx, hb, hml, hown, hts, hX, hbl, hfix, hnc, hLL⟩ := id C
  obtain ⟨hW, hI, hO⟩ := hL
  refine lv_aload_n hx hb dL_law_1048 rfl (lv_at hl 2 rfl) ?_
  refine l_arg C hS 1 (lv_at hl 1 rfl) (lv_at hl 0 rfl) hi (by decide) dL_law_1049 dL_law_1050 dL_law_1052 dL_law_1053 dL_law_1054 ?_
  refine l_arg C hS 2 (lv_at hl 1 rfl) (lv_at hl 0 rfl) hi (by decide) dL_law_1055 dL_law_1056 dL_law_1058 dL_law_1059 dL_law_1060 ?_
  refine l_arg C hS 3 (lv_at hl 1 rfl) (lv_at hl 0 rfl) hi (by decide) dL_law_1061 dL_law_1062 dL_law_1064 dL_law_1065 dL_law_1066 ?_
  refine lv_aload_n hx hb dL_law_1067 rfl (lv_at hl 4 rfl) ?_
  have hca := (h_chance (sc_r xs (i + 1)) (sc_r xs (i + 2)) (sc_r xs (i + 3))) M hI
  refine va_calli (vx_runSW (As := [.ref (rho s.heap.size 149), .int (Int32.ofInt (sc xs (i + 1))), .int (Int32.ofInt (sc xs (i + 2))), .int (Int32.ofInt (sc xs (i + 3))), .ref (s.heap.size + 176)]) (rest := []) ⟨hx, hb, hml, hown, hts⟩ (hp_chance (sg := sg) (cA := cA) (D := D) (sz0 := s.heap.size) (z := z) htr hca (fun e9 M9 q9 => agr_es q9)) (vx_cwSW 5 hts (wsH_good wL_125 wL_126 wL_7 wL_127) rfl rfl rfl (by decide +kernel) ⟨Nat.le_of_ble_eq_true rfl, Nat.le_of_ble_eq_true rfl⟩) ⟨lPre_blind, fun U hU hW9 => ⟨rfl, ⟨(by rw [hU]; exact hW.1), hW.2.1, (by rw [hU]; exact hW.2.2), hfix.warm hW9 (fun q q1 q2 => by rw [hU]; exact hS.2.1 q q1 (fun h => absurd h (Nat.not_le.mpr q1)))⟩, (by rw [hU]; exact hO), hnc.moved hW9.alike⟩⟩ rfl rfl hl.1 rfl (lv_room (Nat.le_of_ble_eq_true rfl)) dL_law_1068 ⟨by show cells + 2 ≤ 603072; omega, by show slots + 12 ≤ 7215210; omega⟩) hS (fun q _ h => h) (fun q h => h) (fun r u t H1 locs1 ht hal hp hB hz1 hfr hS => ?_)
  obtain ⟨r0, hq, hrel⟩ := hp.rel
  obtain ⟨hW, hO⟩ := hB
  rw [ht] at hW hO
  refine lv_istore (lv' := [(5, .int r), (4, .int (Int32.ofInt (i : Int))), (0, .ref b), (1, .ref (rho s.heap.size 149)), (2, .ref (rho s.heap.size 175)), (3, .ref (s.heap.size + 176))]) hx hb dL_law_1071 hl (by decide) rfl (fun ls hl => ?_)
  refine lv_aload_n hx hb dL_law_1073 rfl (lv_at hl 4 rfl) ?_
  refine l_arg C hS 1 (lv_at hl 2 rfl) (lv_at hl 1 rfl) hi (by decide) dL_law_1074 dL_law_1075 dL_law_1077 dL_law_1078 dL_law_1079 ?_
  refine l_arg C hS 2 (lv_at hl 2 rfl) (lv_at hl 1 rfl) hi (by decide) dL_law_1080 dL_law_1081 dL_law_1083 dL_law_1084 dL_law_1085 ?_
  refine l_arg C hS 3 (lv_at hl 2 rfl) (lv_at hl 1 rfl) hi (by decide) dL_law_1086 dL_law_1087 dL_law_1089 dL_law_1090 dL_law_1091 ?_
  have hM := snd (ρ := rho s.heap.size) (sg := sg) (cA := cA) (D := D) (sz0 := s.heap.size) htr 10 cM_chance _ _ _ hq nM_chance rfl
  have hrv := va_recv hfix.1 hW.1 (gCl_at 12 (by decide)) (wWs_ob (show wOb 175 = 12 + 1 from by decide +kernel))
  refine vx_calli (vx_runV (As := [.int (Int32.ofInt (sc xs (i + 1))), .int (Int32.ofInt (sc xs (i + 2))), .int (Int32.ofInt (sc xs (i + 3)))]) (rest := []) ⟨hx, hb, hml, hown, hts⟩ hM (cwV 3 hts (wsV_good wL_128 wL_129 wL_130 wL_3 wL_131) rfl rfl rfl (by decide +kernel) ⟨Nat.le_of_ble_eq_true rfl, Nat.le_of_ble_eq_true rfl⟩) ⟨wPic_blind, hrv, fun U hU hW9 => ⟨rfl, (by rw [hU]; exact hW.1), hW.2.1, (by rw [hU]; exact hW.2.2), hfix.warm hW9 (fun q q1 q2 => by rw [hU]; exact hS.2.1 q q1 (fun h => absurd h (Nat.not_le.mpr q1)))⟩⟩ rfl rfl hl.1 rfl (lv_room (Nat.le_of_ble_eq_true rfl)) dL_law_1092 ⟨by show cells + 2 + 0 ≤ 603072; omega, by show slots + 12 + 6 * 0 ≤ 7215210; omega⟩) hS (fun q _ h => h.1) (fun q h => h.1) (fun q _ h => h.1) (fun E ce q9 u2 t2 H2 locs2 ht2 hal2 hp2 => absurd hp2.2 agr.no) (fun r2 u2 t2 H2 locs2 ht2 hal2 hp2 hB2 hz2 hfr2 hS => ?_)
  obtain ⟨y, rfl, hI, hag⟩ := hp2
  rw [ht2] at hB2
  have hO := hO.kept hfr2
  refine W.widen (k := cells + 8) (n := slots + 48) (by show cells + 2 + 0 ≤ cells + 8; omega) (by show slots + 12 + 6 * 0 ≤ slots + 48; omega) ?_
  refine lv_istore (lv' := [(6, .int (Int32.ofInt y)), (5, .int r), (4, .int (Int32.ofInt (i : Int))), (0, .ref b), (1, .ref (rho s.heap.size 149)), (2, .ref (rho s.heap.size 175)), (3, .ref (s.heap.size + 176))]) hx hb dL_law_1095 hl (by decide) rfl (fun ls hl => ?_)
  exact l_tailI C ⟨hB2, hI, hO⟩ hS (by decide) (by decide) hrel hag hl.1 (lv_at hl 5 rfl) (lv_at hl 6 rfl) (lv_at hl 1 rfl) (lv_at hl 0 rfl) dL_law_1097 dL_law_1098 dL_law_1101 dL_law_1103 dL_law_1108 dL_law_1110 dL_law_1113 dL_law_1114 dL_law_1115 dL_law_1116 dL_law_1118 dL_law_1119 dL_law_1120 dL_law_1125 (by decide) (by omega) (by omega) (fun H3 locs3 h3 hS3 => kk u2 _ H3 locs3 ls h3 hS3 (lv_sub hl [2, 3, 4, 5, 6] rfl))
set_option maxHeartbeats 4000000 in
set_option maxRecDepth 100000 in
theorem cs_17 {p : Program} {l : Launch} {e : Env} {s : State} {m : MethodId} {args : Array Value} {below : List Frame} {meth : Method} {c : Code} {H : Heap} {locs : List Loc} {cells slots : Nat} {Q : State → Prop} {ls : Array Slot} {D : va_G} {cA : Nat → ClassId} {sg : Nat → Nat} {b L i : Nat} {xs : Nat → Int32} {M : Mem} {z : Int64} (C : LC p l s m args c sg cA D b L xs) (hi : i + 5 ≤ L) (hc : cells + 8 ≤ 603072) (hs : slots + 48 ≤ 7215210) (hL : LWS cA D s.heap.size M z H) (hS : va_S (Al s.heap.size) s.heap H locs) (hl : lv_has ls 9 (LV b s.heap.size i))
    (kk : ∀ (M1 : Mem) (z1 : Int64) (H1 : Heap) (locs1 : List Loc) (ls1 : Array Slot), LWS cA D s.heap.size M1 z1 H1 → va_S (Al s.heap.size) s.heap H1 locs1 → lv_has ls1 9 (LV b s.heap.size i) → W p l e room_1 s m args below meth c H1 locs1 (cells + 8) (slots + 48) Q (F0 m 2729 ls1 [])) : W p l e room_1 s m args below meth c H locs cells slots Q (F0 m 1128 ls []) := by
  obtain ⟨htr, hx, hb, hml, hown, hts, hX, hbl, hfix, hnc, hLL⟩ := id C
  obtain ⟨hW, hI, hO⟩ := hL
  refine lv_aload_n hx hb dL_law_1128 rfl (lv_at hl 2 rfl) ?_
  refine l_arg C hS 1 (lv_at hl 1 rfl) (lv_at hl 0 rfl) hi (by decide) dL_law_1129 dL_law_1130 dL_law_1132 dL_law_1133 dL_law_1134 ?_
  refine lv_aload_n hx hb dL_law_1135 rfl (lv_at hl 4 rfl) ?_
  have hca := (h_group (sc_r xs (i + 1))) M hI
  refine va_calli (vx_runSW (As := [.ref (rho s.heap.size 149), .int (Int32.ofInt (sc xs (i + 1))), .ref (s.heap.size + 176)]) (rest := []) ⟨hx, hb, hml, hown, hts⟩ (hp_group (sg := sg) (cA := cA) (D := D) (sz0 := s.heap.size) (z := z) htr hca (fun e9 M9 q9 => agr_es q9)) (vx_cwSW 3 hts (wsH_good wL_132 wL_133 wL_7 wL_134) rfl rfl rfl (by decide +kernel) ⟨Nat.le_of_ble_eq_true rfl, Nat.le_of_ble_eq_true rfl⟩) ⟨lPre_blind, fun U hU hW9 => ⟨rfl, ⟨(by rw [hU]; exact hW.1), hW.2.1, (by rw [hU]; exact hW.2.2), hfix.warm hW9 (fun q q1 q2 => by rw [hU]; exact hS.2.1 q q1 (fun h => absurd h (Nat.not_le.mpr q1)))⟩, (by rw [hU]; exact hO), hnc.moved hW9.alike⟩⟩ rfl rfl hl.1 rfl (lv_room (Nat.le_of_ble_eq_true rfl)) dL_law_1136 ⟨by show cells + 2 ≤ 603072; omega, by show slots + 12 ≤ 7215210; omega⟩) hS (fun q _ h => h) (fun q h => h) (fun r u t H1 locs1 ht hal hp hB hz1 hfr hS => ?_)
  obtain ⟨r0, hq, hrel⟩ := hp.rel
  obtain ⟨hW, hO⟩ := hB
  rw [ht] at hW hO
  refine lv_istore (lv' := [(5, .int r), (4, .int (Int32.ofInt (i : Int))), (0, .ref b), (1, .ref (rho s.heap.size 149)), (2, .ref (rho s.heap.size 175)), (3, .ref (s.heap.size + 176))]) hx hb dL_law_1139 hl (by decide) rfl (fun ls hl => ?_)
  refine lv_aload_n hx hb dL_law_1141 rfl (lv_at hl 4 rfl) ?_
  refine l_arg C hS 1 (lv_at hl 2 rfl) (lv_at hl 1 rfl) hi (by decide) dL_law_1142 dL_law_1143 dL_law_1145 dL_law_1146 dL_law_1147 ?_
  have hM := snd (ρ := rho s.heap.size) (sg := sg) (cA := cA) (D := D) (sz0 := s.heap.size) htr 10 cM_group _ _ _ hq nM_group rfl
  have hrv := va_recv hfix.1 hW.1 (gCl_at 12 (by decide)) (wWs_ob (show wOb 175 = 12 + 1 from by decide +kernel))
  refine vx_calli (vx_runV (As := [.int (Int32.ofInt (sc xs (i + 1)))]) (rest := []) ⟨hx, hb, hml, hown, hts⟩ hM (cwV 1 hts (wsV_good wL_135 wL_136 wL_137 wL_3 wL_138) rfl rfl rfl (by decide +kernel) ⟨Nat.le_of_ble_eq_true rfl, Nat.le_of_ble_eq_true rfl⟩) ⟨wPic_blind, hrv, fun U hU hW9 => ⟨rfl, (by rw [hU]; exact hW.1), hW.2.1, (by rw [hU]; exact hW.2.2), hfix.warm hW9 (fun q q1 q2 => by rw [hU]; exact hS.2.1 q q1 (fun h => absurd h (Nat.not_le.mpr q1)))⟩⟩ rfl rfl hl.1 rfl (lv_room (Nat.le_of_ble_eq_true rfl)) dL_law_1148 ⟨by show cells + 2 + 0 ≤ 603072; omega, by show slots + 12 + 6 * 0 ≤ 7215210; omega⟩) hS (fun q _ h => h.1) (fun q h => h.1) (fun q _ h => h.1) (fun E ce q9 u2 t2 H2 locs2 ht2 hal2 hp2 => absurd hp2.2 agr.no) (fun r2 u2 t2 H2 locs2 ht2 hal2 hp2 hB2 hz2 hfr2 hS => ?_)
  obtain ⟨y, rfl, hI, hag⟩ := hp2
  rw [ht2] at hB2
  have hO := hO.kept hfr2
  refine W.widen (k := cells + 8) (n := slots + 48) (by show cells + 2 + 0 ≤ cells + 8; omega) (by show slots + 12 + 6 * 0 ≤ slots + 48; omega) ?_
  refine lv_istore (lv' := [(6, .int (Int32.ofInt y)), (5, .int r), (4, .int (Int32.ofInt (i : Int))), (0, .ref b), (1, .ref (rho s.heap.size 149)), (2, .ref (rho s.heap.size 175)), (3, .ref (s.heap.size + 176))]) hx hb dL_law_1151 hl (by decide) rfl (fun ls hl => ?_)
  exact l_tailI C ⟨hB2, hI, hO⟩ hS (by decide) (by decide) hrel hag hl.1 (lv_at hl 5 rfl) (lv_at hl 6 rfl) (lv_at hl 1 rfl) (lv_at hl 0 rfl) dL_law_1153 dL_law_1154 dL_law_1157 dL_law_1159 dL_law_1164 dL_law_1166 dL_law_1169 dL_law_1170 dL_law_1171 dL_law_1172 dL_law_1174 dL_law_1175 dL_law_1176 dL_law_1181 (by decide) (by omega) (by omega) (fun H3 locs3 h3 hS3 => kk u2 _ H3 locs3 ls h3 hS3 (lv_sub hl [2, 3, 4, 5, 6] rfl))
set_option maxHeartbeats 4000000 in
set_option maxRecDepth 100000 in
theorem cs_18 {p : Program} {l : Launch} {e : Env} {s : State} {m : MethodId} {args : Array Value} {below : List Frame} {meth : Method} {c : Code} {H : Heap} {locs : List Loc} {cells slots : Nat} {Q : State → Prop} {ls : Array Slot} {D : va_G} {cA : Nat → ClassId} {sg : Nat → Nat} {b L i : Nat} {xs : Nat → Int32} {M : Mem} {z : Int64} (C : LC p l s m args c sg cA D b L xs) (hi : i + 5 ≤ L) (hc : cells + 8 ≤ 603072) (hs : slots + 48 ≤ 7215210) (hL : LWS cA D s.heap.size M z H) (hS : va_S (Al s.heap.size) s.heap H locs) (hl : lv_has ls 9 (LV b s.heap.size i))
    (kk : ∀ (M1 : Mem) (z1 : Int64) (H1 : Heap) (locs1 : List Loc) (ls1 : Array Slot), LWS cA D s.heap.size M1 z1 H1 → va_S (Al s.heap.size) s.heap H1 locs1 → lv_has ls1 9 (LV b s.heap.size i) → W p l e room_1 s m args below meth c H1 locs1 (cells + 8) (slots + 48) Q (F0 m 2729 ls1 [])) : W p l e room_1 s m args below meth c H locs cells slots Q (F0 m 1184 ls []) := by
  obtain ⟨htr, hx, hb, hml, hown, hts, hX, hbl, hfix, hnc, hLL⟩ := id C
  obtain ⟨hW, hI, hO⟩ := hL
  refine lv_aload_n hx hb dL_law_1184 rfl (lv_at hl 2 rfl) ?_
  refine l_arg C hS 1 (lv_at hl 1 rfl) (lv_at hl 0 rfl) hi (by decide) dL_law_1185 dL_law_1186 dL_law_1188 dL_law_1189 dL_law_1190 ?_
  refine lv_aload_n hx hb dL_law_1191 rfl (lv_at hl 4 rfl) ?_
  have hca := (h_longShare (sc_r xs (i + 1))) M hI
  refine va_calli (vx_runSW (As := [.ref (rho s.heap.size 149), .int (Int32.ofInt (sc xs (i + 1))), .ref (s.heap.size + 176)]) (rest := []) ⟨hx, hb, hml, hown, hts⟩ (hp_longShare (sg := sg) (cA := cA) (D := D) (sz0 := s.heap.size) (z := z) htr hca (fun e9 M9 q9 => agr_es q9)) (vx_cwSW 3 hts (wsH_good wL_139 wL_140 wL_7 wL_141) rfl rfl rfl (by decide +kernel) ⟨Nat.le_of_ble_eq_true rfl, Nat.le_of_ble_eq_true rfl⟩) ⟨lPre_blind, fun U hU hW9 => ⟨rfl, ⟨(by rw [hU]; exact hW.1), hW.2.1, (by rw [hU]; exact hW.2.2), hfix.warm hW9 (fun q q1 q2 => by rw [hU]; exact hS.2.1 q q1 (fun h => absurd h (Nat.not_le.mpr q1)))⟩, (by rw [hU]; exact hO), hnc.moved hW9.alike⟩⟩ rfl rfl hl.1 rfl (lv_room (Nat.le_of_ble_eq_true rfl)) dL_law_1192 ⟨by show cells + 2 ≤ 603072; omega, by show slots + 12 ≤ 7215210; omega⟩) hS (fun q _ h => h) (fun q h => h) (fun r u t H1 locs1 ht hal hp hB hz1 hfr hS => ?_)
  obtain ⟨r0, hq, hrel⟩ := hp.rel
  obtain ⟨hW, hO⟩ := hB
  rw [ht] at hW hO
  refine lv_istore (lv' := [(5, .int r), (4, .int (Int32.ofInt (i : Int))), (0, .ref b), (1, .ref (rho s.heap.size 149)), (2, .ref (rho s.heap.size 175)), (3, .ref (s.heap.size + 176))]) hx hb dL_law_1195 hl (by decide) rfl (fun ls hl => ?_)
  refine lv_aload_n hx hb dL_law_1197 rfl (lv_at hl 4 rfl) ?_
  refine l_arg C hS 1 (lv_at hl 2 rfl) (lv_at hl 1 rfl) hi (by decide) dL_law_1198 dL_law_1199 dL_law_1201 dL_law_1202 dL_law_1203 ?_
  have hM := snd (ρ := rho s.heap.size) (sg := sg) (cA := cA) (D := D) (sz0 := s.heap.size) htr 10 cM_longShare _ _ _ hq nM_longShare rfl
  have hrv := va_recv hfix.1 hW.1 (gCl_at 12 (by decide)) (wWs_ob (show wOb 175 = 12 + 1 from by decide +kernel))
  refine vx_calli (vx_runV (As := [.int (Int32.ofInt (sc xs (i + 1)))]) (rest := []) ⟨hx, hb, hml, hown, hts⟩ hM (cwV 1 hts (wsV_good wL_142 wL_143 wL_144 wL_3 wL_145) rfl rfl rfl (by decide +kernel) ⟨Nat.le_of_ble_eq_true rfl, Nat.le_of_ble_eq_true rfl⟩) ⟨wPic_blind, hrv, fun U hU hW9 => ⟨rfl, (by rw [hU]; exact hW.1), hW.2.1, (by rw [hU]; exact hW.2.2), hfix.warm hW9 (fun q q1 q2 => by rw [hU]; exact hS.2.1 q q1 (fun h => absurd h (Nat.not_le.mpr q1)))⟩⟩ rfl rfl hl.1 rfl (lv_room (Nat.le_of_ble_eq_true rfl)) dL_law_1204 ⟨by show cells + 2 + 0 ≤ 603072; omega, by show slots + 12 + 6 * 0 ≤ 7215210; omega⟩) hS (fun q _ h => h.1) (fun q h => h.1) (fun q _ h => h.1) (fun E ce q9 u2 t2 H2 locs2 ht2 hal2 hp2 => absurd hp2.2 agr.no) (fun r2 u2 t2 H2 locs2 ht2 hal2 hp2 hB2 hz2 hfr2 hS => ?_)
  obtain ⟨y, rfl, hI, hag⟩ := hp2
  rw [ht2] at hB2
  have hO := hO.kept hfr2
  refine W.widen (k := cells + 8) (n := slots + 48) (by show cells + 2 + 0 ≤ cells + 8; omega) (by show slots + 12 + 6 * 0 ≤ slots + 48; omega) ?_
  refine lv_istore (lv' := [(6, .int (Int32.ofInt y)), (5, .int r), (4, .int (Int32.ofInt (i : Int))), (0, .ref b), (1, .ref (rho s.heap.size 149)), (2, .ref (rho s.heap.size 175)), (3, .ref (s.heap.size + 176))]) hx hb dL_law_1207 hl (by decide) rfl (fun ls hl => ?_)
  exact l_tailI C ⟨hB2, hI, hO⟩ hS (by decide) (by decide) hrel hag hl.1 (lv_at hl 5 rfl) (lv_at hl 6 rfl) (lv_at hl 1 rfl) (lv_at hl 0 rfl) dL_law_1209 dL_law_1210 dL_law_1213 dL_law_1215 dL_law_1220 dL_law_1222 dL_law_1225 dL_law_1226 dL_law_1227 dL_law_1228 dL_law_1230 dL_law_1231 dL_law_1232 dL_law_1237 (by decide) (by omega) (by omega) (fun H3 locs3 h3 hS3 => kk u2 _ H3 locs3 ls h3 hS3 (lv_sub hl [2, 3, 4, 5, 6] rfl))
set_option maxHeartbeats 4000000 in
set_option maxRecDepth 100000 in
theorem cs_19 {p : Program} {l : Launch} {e : Env} {s : State} {m : MethodId} {args : Array Value} {below : List Frame} {meth : Method} {c : Code} {H : Heap} {locs : List Loc} {cells slots : Nat} {Q : State → Prop} {ls : Array Slot} {D : va_G} {cA : Nat → ClassId} {sg : Nat → Nat} {b L i : Nat} {xs : Nat → Int32} {M : Mem} {z : Int64} (C : LC p l s m args c sg cA D b L xs) (hi : i + 5 ≤ L) (hc : cells + 8 ≤ 603072) (hs : slots + 48 ≤ 7215210) (hL : LWS cA D s.heap.size M z H) (hS : va_S (Al s.heap.size) s.heap H locs) (hl : lv_has ls 9 (LV b s.heap.size i))
    (kk : ∀ (M1 : Mem) (z1 : Int64) (H1 : Heap) (locs1 : List Loc) (ls1 : Array Slot), LWS cA D s.heap.size M1 z1 H1 → va_S (Al s.heap.size) s.heap H1 locs1 → lv_has ls1 9 (LV b s.heap.size i) → W p l e room_1 s m args below meth c H1 locs1 (cells + 8) (slots + 48) Q (F0 m 2729 ls1 [])) : W p l e room_1 s m args below meth c H locs cells slots Q (F0 m 1240 ls []) := by
  obtain ⟨htr, hx, hb, hml, hown, hts, hX, hbl, hfix, hnc, hLL⟩ := id C
  obtain ⟨hW, hI, hO⟩ := hL
  refine lv_aload_n hx hb dL_law_1240 rfl (lv_at hl 2 rfl) ?_
  refine l_arg C hS 1 (lv_at hl 1 rfl) (lv_at hl 0 rfl) hi (by decide) dL_law_1241 dL_law_1242 dL_law_1244 dL_law_1245 dL_law_1246 ?_
  refine l_arg C hS 2 (lv_at hl 1 rfl) (lv_at hl 0 rfl) hi (by decide) dL_law_1247 dL_law_1248 dL_law_1250 dL_law_1251 dL_law_1252 ?_
  refine lv_aload_n hx hb dL_law_1253 rfl (lv_at hl 4 rfl) ?_
  have hca := (h_reach (sc_r xs (i + 1)) (sc_r xs (i + 2))) M hI
  refine va_calli (vx_runSW (As := [.ref (rho s.heap.size 149), .int (Int32.ofInt (sc xs (i + 1))), .int (Int32.ofInt (sc xs (i + 2))), .ref (s.heap.size + 176)]) (rest := []) ⟨hx, hb, hml, hown, hts⟩ (hp_reach (sg := sg) (cA := cA) (D := D) (sz0 := s.heap.size) (z := z) htr hca (fun e9 M9 q9 => agr_es q9)) (vx_cwSW 4 hts (wsH_good wL_146 wL_147 wL_7 wL_148) rfl rfl rfl (by decide +kernel) ⟨Nat.le_of_ble_eq_true rfl, Nat.le_of_ble_eq_true rfl⟩) ⟨lPre_blind, fun U hU hW9 => ⟨rfl, ⟨(by rw [hU]; exact hW.1), hW.2.1, (by rw [hU]; exact hW.2.2), hfix.warm hW9 (fun q q1 q2 => by rw [hU]; exact hS.2.1 q q1 (fun h => absurd h (Nat.not_le.mpr q1)))⟩, (by rw [hU]; exact hO), hnc.moved hW9.alike⟩⟩ rfl rfl hl.1 rfl (lv_room (Nat.le_of_ble_eq_true rfl)) dL_law_1254 ⟨by show cells + 2 ≤ 603072; omega, by show slots + 12 ≤ 7215210; omega⟩) hS (fun q _ h => h) (fun q h => h) (fun r u t H1 locs1 ht hal hp hB hz1 hfr hS => ?_)
  obtain ⟨r0, hq, hrel⟩ := hp.rel
  obtain ⟨hW, hO⟩ := hB
  rw [ht] at hW hO
  refine lv_istore (lv' := [(5, .int r), (4, .int (Int32.ofInt (i : Int))), (0, .ref b), (1, .ref (rho s.heap.size 149)), (2, .ref (rho s.heap.size 175)), (3, .ref (s.heap.size + 176))]) hx hb dL_law_1257 hl (by decide) rfl (fun ls hl => ?_)
  refine lv_aload_n hx hb dL_law_1259 rfl (lv_at hl 4 rfl) ?_
  refine l_arg C hS 1 (lv_at hl 2 rfl) (lv_at hl 1 rfl) hi (by decide) dL_law_1260 dL_law_1261 dL_law_1263 dL_law_1264 dL_law_1265 ?_
  refine l_arg C hS 2 (lv_at hl 2 rfl) (lv_at hl 1 rfl) hi (by decide) dL_law_1266 dL_law_1267 dL_law_1269 dL_law_1270 dL_law_1271 ?_
  have hM := snd (ρ := rho s.heap.size) (sg := sg) (cA := cA) (D := D) (sz0 := s.heap.size) htr 10 cM_reach _ _ _ hq nM_reach rfl
  have hrv := va_recv hfix.1 hW.1 (gCl_at 12 (by decide)) (wWs_ob (show wOb 175 = 12 + 1 from by decide +kernel))
  refine vx_calli (vx_runV (As := [.int (Int32.ofInt (sc xs (i + 1))), .int (Int32.ofInt (sc xs (i + 2)))]) (rest := []) ⟨hx, hb, hml, hown, hts⟩ hM (cwV 2 hts (wsV_good wL_149 wL_150 wL_151 wL_3 wL_152) rfl rfl rfl (by decide +kernel) ⟨Nat.le_of_ble_eq_true rfl, Nat.le_of_ble_eq_true rfl⟩) ⟨wPic_blind, hrv, fun U hU hW9 => ⟨rfl, (by rw [hU]; exact hW.1), hW.2.1, (by rw [hU]; exact hW.2.2), hfix.warm hW9 (fun q q1 q2 => by rw [hU]; exact hS.2.1 q q1 (fun h => absurd h (Nat.not_le.mpr q1)))⟩⟩ rfl rfl hl.1 rfl (lv_room (Nat.le_of_ble_eq_true rfl)) dL_law_1272 ⟨by show cells + 2 + 0 ≤ 603072; omega, by show slots + 12 + 6 * 0 ≤ 7215210; omega⟩) hS (fun q _ h => h.1) (fun q h => h.1) (fun q _ h => h.1) (fun E ce q9 u2 t2 H2 locs2 ht2 hal2 hp2 => absurd hp2.2 agr.no) (fun r2 u2 t2 H2 locs2 ht2 hal2 hp2 hB2 hz2 hfr2 hS => ?_)
  obtain ⟨y, rfl, hI, hag⟩ := hp2
  rw [ht2] at hB2
  have hO := hO.kept hfr2
  refine W.widen (k := cells + 8) (n := slots + 48) (by show cells + 2 + 0 ≤ cells + 8; omega) (by show slots + 12 + 6 * 0 ≤ slots + 48; omega) ?_
  refine lv_istore (lv' := [(6, .int (Int32.ofInt y)), (5, .int r), (4, .int (Int32.ofInt (i : Int))), (0, .ref b), (1, .ref (rho s.heap.size 149)), (2, .ref (rho s.heap.size 175)), (3, .ref (s.heap.size + 176))]) hx hb dL_law_1275 hl (by decide) rfl (fun ls hl => ?_)
  exact l_tailI C ⟨hB2, hI, hO⟩ hS (by decide) (by decide) hrel hag hl.1 (lv_at hl 5 rfl) (lv_at hl 6 rfl) (lv_at hl 1 rfl) (lv_at hl 0 rfl) dL_law_1277 dL_law_1278 dL_law_1281 dL_law_1283 dL_law_1288 dL_law_1290 dL_law_1293 dL_law_1294 dL_law_1295 dL_law_1296 dL_law_1298 dL_law_1299 dL_law_1300 dL_law_1305 (by decide) (by omega) (by omega) (fun H3 locs3 h3 hS3 => kk u2 _ H3 locs3 ls h3 hS3 (lv_sub hl [2, 3, 4, 5, 6] rfl))
set_option maxHeartbeats 4000000 in
set_option maxRecDepth 100000 in
theorem cs_20 {p : Program} {l : Launch} {e : Env} {s : State} {m : MethodId} {args : Array Value} {below : List Frame} {meth : Method} {c : Code} {H : Heap} {locs : List Loc} {cells slots : Nat} {Q : State → Prop} {ls : Array Slot} {D : va_G} {cA : Nat → ClassId} {sg : Nat → Nat} {b L i : Nat} {xs : Nat → Int32} {M : Mem} {z : Int64} (C : LC p l s m args c sg cA D b L xs) (hi : i + 5 ≤ L) (hc : cells + 8 ≤ 603072) (hs : slots + 48 ≤ 7215210) (hL : LWS cA D s.heap.size M z H) (hS : va_S (Al s.heap.size) s.heap H locs) (hl : lv_has ls 9 (LV b s.heap.size i))
    (kk : ∀ (M1 : Mem) (z1 : Int64) (H1 : Heap) (locs1 : List Loc) (ls1 : Array Slot), LWS cA D s.heap.size M1 z1 H1 → va_S (Al s.heap.size) s.heap H1 locs1 → lv_has ls1 9 (LV b s.heap.size i) → W p l e room_1 s m args below meth c H1 locs1 (cells + 8) (slots + 48) Q (F0 m 2729 ls1 [])) : W p l e room_1 s m args below meth c H locs cells slots Q (F0 m 1308 ls []) := by
  obtain ⟨htr, hx, hb, hml, hown, hts, hX, hbl, hfix, hnc, hLL⟩ := id C
  obtain ⟨hW, hI, hO⟩ := hL
  refine lv_aload_n hx hb dL_law_1308 rfl (lv_at hl 2 rfl) ?_
  refine l_arg C hS 1 (lv_at hl 1 rfl) (lv_at hl 0 rfl) hi (by decide) dL_law_1309 dL_law_1310 dL_law_1312 dL_law_1313 dL_law_1314 ?_
  refine l_arg C hS 2 (lv_at hl 1 rfl) (lv_at hl 0 rfl) hi (by decide) dL_law_1315 dL_law_1316 dL_law_1318 dL_law_1319 dL_law_1320 ?_
  refine lv_aload_n hx hb dL_law_1321 rfl (lv_at hl 4 rfl) ?_
  have hca := (h_timeTo (sc_r xs (i + 1)) (sc_r xs (i + 2))) M hI
  refine va_calli (vx_runSW (As := [.ref (rho s.heap.size 149), .int (Int32.ofInt (sc xs (i + 1))), .int (Int32.ofInt (sc xs (i + 2))), .ref (s.heap.size + 176)]) (rest := []) ⟨hx, hb, hml, hown, hts⟩ (hp_timeTo (sg := sg) (cA := cA) (D := D) (sz0 := s.heap.size) (z := z) htr hca (fun e9 M9 q9 => agr_es q9)) (vx_cwSW 4 hts (wsH_good wL_153 wL_154 wL_7 wL_155) rfl rfl rfl (by decide +kernel) ⟨Nat.le_of_ble_eq_true rfl, Nat.le_of_ble_eq_true rfl⟩) ⟨lPre_blind, fun U hU hW9 => ⟨rfl, ⟨(by rw [hU]; exact hW.1), hW.2.1, (by rw [hU]; exact hW.2.2), hfix.warm hW9 (fun q q1 q2 => by rw [hU]; exact hS.2.1 q q1 (fun h => absurd h (Nat.not_le.mpr q1)))⟩, (by rw [hU]; exact hO), hnc.moved hW9.alike⟩⟩ rfl rfl hl.1 rfl (lv_room (Nat.le_of_ble_eq_true rfl)) dL_law_1322 ⟨by show cells + 3 ≤ 603072; omega, by show slots + 18 ≤ 7215210; omega⟩) hS (fun q _ h => h) (fun q h => h) (fun r u t H1 locs1 ht hal hp hB hz1 hfr hS => ?_)
  obtain ⟨r0, hq, hrel⟩ := hp.rel
  obtain ⟨hW, hO⟩ := hB
  rw [ht] at hW hO
  refine lv_istore (lv' := [(5, .int r), (4, .int (Int32.ofInt (i : Int))), (0, .ref b), (1, .ref (rho s.heap.size 149)), (2, .ref (rho s.heap.size 175)), (3, .ref (s.heap.size + 176))]) hx hb dL_law_1325 hl (by decide) rfl (fun ls hl => ?_)
  refine lv_aload_n hx hb dL_law_1327 rfl (lv_at hl 4 rfl) ?_
  refine l_arg C hS 1 (lv_at hl 2 rfl) (lv_at hl 1 rfl) hi (by decide) dL_law_1328 dL_law_1329 dL_law_1331 dL_law_1332 dL_law_1333 ?_
  refine l_arg C hS 2 (lv_at hl 2 rfl) (lv_at hl 1 rfl) hi (by decide) dL_law_1334 dL_law_1335 dL_law_1337 dL_law_1338 dL_law_1339 ?_
  have hM := snd (ρ := rho s.heap.size) (sg := sg) (cA := cA) (D := D) (sz0 := s.heap.size) htr 10 cM_timeTo _ _ _ hq nM_timeTo rfl
  have hrv := va_recv hfix.1 hW.1 (gCl_at 12 (by decide)) (wWs_ob (show wOb 175 = 12 + 1 from by decide +kernel))
  refine vx_calli (vx_runV (As := [.int (Int32.ofInt (sc xs (i + 1))), .int (Int32.ofInt (sc xs (i + 2)))]) (rest := []) ⟨hx, hb, hml, hown, hts⟩ hM (cwV 2 hts (wsV_good wL_156 wL_157 wL_158 wL_3 wL_159) rfl rfl rfl (by decide +kernel) ⟨Nat.le_of_ble_eq_true rfl, Nat.le_of_ble_eq_true rfl⟩) ⟨wPic_blind, hrv, fun U hU hW9 => ⟨rfl, (by rw [hU]; exact hW.1), hW.2.1, (by rw [hU]; exact hW.2.2), hfix.warm hW9 (fun q q1 q2 => by rw [hU]; exact hS.2.1 q q1 (fun h => absurd h (Nat.not_le.mpr q1)))⟩⟩ rfl rfl hl.1 rfl (lv_room (Nat.le_of_ble_eq_true rfl)) dL_law_1340 ⟨by show cells + 3 + 0 ≤ 603072; omega, by show slots + 18 + 6 * 0 ≤ 7215210; omega⟩) hS (fun q _ h => h.1) (fun q h => h.1) (fun q _ h => h.1) (fun E ce q9 u2 t2 H2 locs2 ht2 hal2 hp2 => absurd hp2.2 agr.no) (fun r2 u2 t2 H2 locs2 ht2 hal2 hp2 hB2 hz2 hfr2 hS => ?_)
  obtain ⟨y, rfl, hI, hag⟩ := hp2
  rw [ht2] at hB2
  have hO := hO.kept hfr2
  refine W.widen (k := cells + 8) (n := slots + 48) (by show cells + 3 + 0 ≤ cells + 8; omega) (by show slots + 18 + 6 * 0 ≤ slots + 48; omega) ?_
  refine lv_istore (lv' := [(6, .int (Int32.ofInt y)), (5, .int r), (4, .int (Int32.ofInt (i : Int))), (0, .ref b), (1, .ref (rho s.heap.size 149)), (2, .ref (rho s.heap.size 175)), (3, .ref (s.heap.size + 176))]) hx hb dL_law_1343 hl (by decide) rfl (fun ls hl => ?_)
  exact l_tailI C ⟨hB2, hI, hO⟩ hS (by decide) (by decide) hrel hag hl.1 (lv_at hl 5 rfl) (lv_at hl 6 rfl) (lv_at hl 1 rfl) (lv_at hl 0 rfl) dL_law_1345 dL_law_1346 dL_law_1349 dL_law_1351 dL_law_1356 dL_law_1358 dL_law_1361 dL_law_1362 dL_law_1363 dL_law_1364 dL_law_1366 dL_law_1367 dL_law_1368 dL_law_1373 (by decide) (by omega) (by omega) (fun H3 locs3 h3 hS3 => kk u2 _ H3 locs3 ls h3 hS3 (lv_sub hl [2, 3, 4, 5, 6] rfl))
set_option maxHeartbeats 4000000 in
set_option maxRecDepth 100000 in
theorem cs_21 {p : Program} {l : Launch} {e : Env} {s : State} {m : MethodId} {args : Array Value} {below : List Frame} {meth : Method} {c : Code} {H : Heap} {locs : List Loc} {cells slots : Nat} {Q : State → Prop} {ls : Array Slot} {D : va_G} {cA : Nat → ClassId} {sg : Nat → Nat} {b L i : Nat} {xs : Nat → Int32} {M : Mem} {z : Int64} (C : LC p l s m args c sg cA D b L xs) (hi : i + 5 ≤ L) (hc : cells + 8 ≤ 603072) (hs : slots + 48 ≤ 7215210) (hL : LWS cA D s.heap.size M z H) (hS : va_S (Al s.heap.size) s.heap H locs) (hl : lv_has ls 9 (LV b s.heap.size i))
    (kk : ∀ (M1 : Mem) (z1 : Int64) (H1 : Heap) (locs1 : List Loc) (ls1 : Array Slot), LWS cA D s.heap.size M1 z1 H1 → va_S (Al s.heap.size) s.heap H1 locs1 → lv_has ls1 9 (LV b s.heap.size i) → W p l e room_1 s m args below meth c H1 locs1 (cells + 8) (slots + 48) Q (F0 m 2729 ls1 [])) : W p l e room_1 s m args below meth c H locs cells slots Q (F0 m 1376 ls []) := by
  obtain ⟨htr, hx, hb, hml, hown, hts, hX, hbl, hfix, hnc, hLL⟩ := id C
  obtain ⟨hW, hI, hO⟩ := hL
  refine lv_aload_n hx hb dL_law_1376 rfl (lv_at hl 2 rfl) ?_
  refine l_arg C hS 1 (lv_at hl 1 rfl) (lv_at hl 0 rfl) hi (by decide) dL_law_1377 dL_law_1378 dL_law_1380 dL_law_1381 dL_law_1382 ?_
  refine l_arg C hS 2 (lv_at hl 1 rfl) (lv_at hl 0 rfl) hi (by decide) dL_law_1383 dL_law_1384 dL_law_1386 dL_law_1387 dL_law_1388 ?_
  refine l_arg C hS 3 (lv_at hl 1 rfl) (lv_at hl 0 rfl) hi (by decide) dL_law_1389 dL_law_1390 dL_law_1392 dL_law_1393 dL_law_1394 ?_
  refine lv_aload_n hx hb dL_law_1395 rfl (lv_at hl 4 rfl) ?_
  have hca := (h_behind (sc_r xs (i + 1)) (sc_r xs (i + 2)) (sc_r xs (i + 3))) M hI
  refine va_calli (vx_runSW (As := [.ref (rho s.heap.size 149), .int (Int32.ofInt (sc xs (i + 1))), .int (Int32.ofInt (sc xs (i + 2))), .int (Int32.ofInt (sc xs (i + 3))), .ref (s.heap.size + 176)]) (rest := []) ⟨hx, hb, hml, hown, hts⟩ (hp_behind (sg := sg) (cA := cA) (D := D) (sz0 := s.heap.size) (z := z) htr hca (fun e9 M9 q9 => agr_es q9)) (vx_cwSW 5 hts (wsH_good wL_160 wL_161 wL_7 wL_162) rfl rfl rfl (by decide +kernel) ⟨Nat.le_of_ble_eq_true rfl, Nat.le_of_ble_eq_true rfl⟩) ⟨lPre_blind, fun U hU hW9 => ⟨rfl, ⟨(by rw [hU]; exact hW.1), hW.2.1, (by rw [hU]; exact hW.2.2), hfix.warm hW9 (fun q q1 q2 => by rw [hU]; exact hS.2.1 q q1 (fun h => absurd h (Nat.not_le.mpr q1)))⟩, (by rw [hU]; exact hO), hnc.moved hW9.alike⟩⟩ rfl rfl hl.1 rfl (lv_room (Nat.le_of_ble_eq_true rfl)) dL_law_1396 ⟨by show cells + 3 ≤ 603072; omega, by show slots + 18 ≤ 7215210; omega⟩) hS (fun q _ h => h) (fun q h => h) (fun r u t H1 locs1 ht hal hp hB hz1 hfr hS => ?_)
  obtain ⟨r0, hq, hrel⟩ := hp.rel
  obtain ⟨hW, hO⟩ := hB
  rw [ht] at hW hO
  refine lv_istore (lv' := [(5, .int r), (4, .int (Int32.ofInt (i : Int))), (0, .ref b), (1, .ref (rho s.heap.size 149)), (2, .ref (rho s.heap.size 175)), (3, .ref (s.heap.size + 176))]) hx hb dL_law_1399 hl (by decide) rfl (fun ls hl => ?_)
  refine lv_aload_n hx hb dL_law_1401 rfl (lv_at hl 4 rfl) ?_
  refine l_arg C hS 1 (lv_at hl 2 rfl) (lv_at hl 1 rfl) hi (by decide) dL_law_1402 dL_law_1403 dL_law_1405 dL_law_1406 dL_law_1407 ?_
  refine l_arg C hS 2 (lv_at hl 2 rfl) (lv_at hl 1 rfl) hi (by decide) dL_law_1408 dL_law_1409 dL_law_1411 dL_law_1412 dL_law_1413 ?_
  refine l_arg C hS 3 (lv_at hl 2 rfl) (lv_at hl 1 rfl) hi (by decide) dL_law_1414 dL_law_1415 dL_law_1417 dL_law_1418 dL_law_1419 ?_
  have hM := snd (ρ := rho s.heap.size) (sg := sg) (cA := cA) (D := D) (sz0 := s.heap.size) htr 10 cM_behind _ _ _ hq nM_behind rfl
  have hrv := va_recv hfix.1 hW.1 (gCl_at 12 (by decide)) (wWs_ob (show wOb 175 = 12 + 1 from by decide +kernel))
  refine vx_calli (vx_runV (As := [.int (Int32.ofInt (sc xs (i + 1))), .int (Int32.ofInt (sc xs (i + 2))), .int (Int32.ofInt (sc xs (i + 3)))]) (rest := []) ⟨hx, hb, hml, hown, hts⟩ hM (cwV 3 hts (wsV_good wL_163 wL_164 wL_165 wL_3 wL_166) rfl rfl rfl (by decide +kernel) ⟨Nat.le_of_ble_eq_true rfl, Nat.le_of_ble_eq_true rfl⟩) ⟨wPic_blind, hrv, fun U hU hW9 => ⟨rfl, (by rw [hU]; exact hW.1), hW.2.1, (by rw [hU]; exact hW.2.2), hfix.warm hW9 (fun q q1 q2 => by rw [hU]; exact hS.2.1 q q1 (fun h => absurd h (Nat.not_le.mpr q1)))⟩⟩ rfl rfl hl.1 rfl (lv_room (Nat.le_of_ble_eq_true rfl)) dL_law_1420 ⟨by show cells + 3 + 0 ≤ 603072; omega, by show slots + 18 + 6 * 0 ≤ 7215210; omega⟩) hS (fun q _ h => h.1) (fun q h => h.1) (fun q _ h => h.1) (fun E ce q9 u2 t2 H2 locs2 ht2 hal2 hp2 => absurd hp2.2 agr.no) (fun r2 u2 t2 H2 locs2 ht2 hal2 hp2 hB2 hz2 hfr2 hS => ?_)
  obtain ⟨y, rfl, hI, hag⟩ := hp2
  rw [ht2] at hB2
  have hO := hO.kept hfr2
  refine W.widen (k := cells + 8) (n := slots + 48) (by show cells + 3 + 0 ≤ cells + 8; omega) (by show slots + 18 + 6 * 0 ≤ slots + 48; omega) ?_
  refine lv_istore (lv' := [(6, .int (Int32.ofInt y)), (5, .int r), (4, .int (Int32.ofInt (i : Int))), (0, .ref b), (1, .ref (rho s.heap.size 149)), (2, .ref (rho s.heap.size 175)), (3, .ref (s.heap.size + 176))]) hx hb dL_law_1423 hl (by decide) rfl (fun ls hl => ?_)
  exact l_tailI C ⟨hB2, hI, hO⟩ hS (by decide) (by decide) hrel hag hl.1 (lv_at hl 5 rfl) (lv_at hl 6 rfl) (lv_at hl 1 rfl) (lv_at hl 0 rfl) dL_law_1425 dL_law_1426 dL_law_1429 dL_law_1431 dL_law_1436 dL_law_1438 dL_law_1441 dL_law_1442 dL_law_1443 dL_law_1444 dL_law_1446 dL_law_1447 dL_law_1448 dL_law_1453 (by decide) (by omega) (by omega) (fun H3 locs3 h3 hS3 => kk u2 _ H3 locs3 ls h3 hS3 (lv_sub hl [2, 3, 4, 5, 6] rfl))
set_option maxHeartbeats 4000000 in
set_option maxRecDepth 100000 in
theorem cs_22 {p : Program} {l : Launch} {e : Env} {s : State} {m : MethodId} {args : Array Value} {below : List Frame} {meth : Method} {c : Code} {H : Heap} {locs : List Loc} {cells slots : Nat} {Q : State → Prop} {ls : Array Slot} {D : va_G} {cA : Nat → ClassId} {sg : Nat → Nat} {b L i : Nat} {xs : Nat → Int32} {M : Mem} {z : Int64} (C : LC p l s m args c sg cA D b L xs) (hi : i + 5 ≤ L) (hc : cells + 8 ≤ 603072) (hs : slots + 48 ≤ 7215210) (hL : LWS cA D s.heap.size M z H) (hS : va_S (Al s.heap.size) s.heap H locs) (hl : lv_has ls 9 (LV b s.heap.size i))
    (kk : ∀ (M1 : Mem) (z1 : Int64) (H1 : Heap) (locs1 : List Loc) (ls1 : Array Slot), LWS cA D s.heap.size M1 z1 H1 → va_S (Al s.heap.size) s.heap H1 locs1 → lv_has ls1 9 (LV b s.heap.size i) → W p l e room_1 s m args below meth c H1 locs1 (cells + 8) (slots + 48) Q (F0 m 2729 ls1 [])) : W p l e room_1 s m args below meth c H locs cells slots Q (F0 m 1456 ls []) := by
  obtain ⟨htr, hx, hb, hml, hown, hts, hX, hbl, hfix, hnc, hLL⟩ := id C
  obtain ⟨hW, hI, hO⟩ := hL
  refine lv_aload_n hx hb dL_law_1456 rfl (lv_at hl 2 rfl) ?_
  refine l_arg C hS 1 (lv_at hl 1 rfl) (lv_at hl 0 rfl) hi (by decide) dL_law_1457 dL_law_1458 dL_law_1460 dL_law_1461 dL_law_1462 ?_
  refine l_arg C hS 2 (lv_at hl 1 rfl) (lv_at hl 0 rfl) hi (by decide) dL_law_1463 dL_law_1464 dL_law_1466 dL_law_1467 dL_law_1468 ?_
  refine l_arg C hS 3 (lv_at hl 1 rfl) (lv_at hl 0 rfl) hi (by decide) dL_law_1469 dL_law_1470 dL_law_1472 dL_law_1473 dL_law_1474 ?_
  refine lv_aload_n hx hb dL_law_1475 rfl (lv_at hl 4 rfl) ?_
  have hca := (h_lostShare (sc_r xs (i + 1)) (sc_r xs (i + 2)) (sc_r xs (i + 3))) M hI
  refine va_calli (vx_runSW (As := [.ref (rho s.heap.size 149), .int (Int32.ofInt (sc xs (i + 1))), .int (Int32.ofInt (sc xs (i + 2))), .int (Int32.ofInt (sc xs (i + 3))), .ref (s.heap.size + 176)]) (rest := []) ⟨hx, hb, hml, hown, hts⟩ (hp_lostShare (sg := sg) (cA := cA) (D := D) (sz0 := s.heap.size) (z := z) htr hca (fun e9 M9 q9 => agr_es q9)) (vx_cwSW 5 hts (wsH_good wL_167 wL_168 wL_7 wL_169) rfl rfl rfl (by decide +kernel) ⟨Nat.le_of_ble_eq_true rfl, Nat.le_of_ble_eq_true rfl⟩) ⟨lPre_blind, fun U hU hW9 => ⟨rfl, ⟨(by rw [hU]; exact hW.1), hW.2.1, (by rw [hU]; exact hW.2.2), hfix.warm hW9 (fun q q1 q2 => by rw [hU]; exact hS.2.1 q q1 (fun h => absurd h (Nat.not_le.mpr q1)))⟩, (by rw [hU]; exact hO), hnc.moved hW9.alike⟩⟩ rfl rfl hl.1 rfl (lv_room (Nat.le_of_ble_eq_true rfl)) dL_law_1476 ⟨by show cells + 2 ≤ 603072; omega, by show slots + 12 ≤ 7215210; omega⟩) hS (fun q _ h => h) (fun q h => h) (fun r u t H1 locs1 ht hal hp hB hz1 hfr hS => ?_)
  obtain ⟨r0, hq, hrel⟩ := hp.rel
  obtain ⟨hW, hO⟩ := hB
  rw [ht] at hW hO
  refine lv_istore (lv' := [(5, .int r), (4, .int (Int32.ofInt (i : Int))), (0, .ref b), (1, .ref (rho s.heap.size 149)), (2, .ref (rho s.heap.size 175)), (3, .ref (s.heap.size + 176))]) hx hb dL_law_1479 hl (by decide) rfl (fun ls hl => ?_)
  refine lv_aload_n hx hb dL_law_1481 rfl (lv_at hl 4 rfl) ?_
  refine l_arg C hS 1 (lv_at hl 2 rfl) (lv_at hl 1 rfl) hi (by decide) dL_law_1482 dL_law_1483 dL_law_1485 dL_law_1486 dL_law_1487 ?_
  refine l_arg C hS 2 (lv_at hl 2 rfl) (lv_at hl 1 rfl) hi (by decide) dL_law_1488 dL_law_1489 dL_law_1491 dL_law_1492 dL_law_1493 ?_
  refine l_arg C hS 3 (lv_at hl 2 rfl) (lv_at hl 1 rfl) hi (by decide) dL_law_1494 dL_law_1495 dL_law_1497 dL_law_1498 dL_law_1499 ?_
  have hM := snd (ρ := rho s.heap.size) (sg := sg) (cA := cA) (D := D) (sz0 := s.heap.size) htr 10 cM_lostShare _ _ _ hq nM_lostShare rfl
  have hrv := va_recv hfix.1 hW.1 (gCl_at 12 (by decide)) (wWs_ob (show wOb 175 = 12 + 1 from by decide +kernel))
  refine vx_calli (vx_runV (As := [.int (Int32.ofInt (sc xs (i + 1))), .int (Int32.ofInt (sc xs (i + 2))), .int (Int32.ofInt (sc xs (i + 3)))]) (rest := []) ⟨hx, hb, hml, hown, hts⟩ hM (cwV 3 hts (wsV_good wL_170 wL_171 wL_172 wL_3 wL_173) rfl rfl rfl (by decide +kernel) ⟨Nat.le_of_ble_eq_true rfl, Nat.le_of_ble_eq_true rfl⟩) ⟨wPic_blind, hrv, fun U hU hW9 => ⟨rfl, (by rw [hU]; exact hW.1), hW.2.1, (by rw [hU]; exact hW.2.2), hfix.warm hW9 (fun q q1 q2 => by rw [hU]; exact hS.2.1 q q1 (fun h => absurd h (Nat.not_le.mpr q1)))⟩⟩ rfl rfl hl.1 rfl (lv_room (Nat.le_of_ble_eq_true rfl)) dL_law_1500 ⟨by show cells + 2 + 0 ≤ 603072; omega, by show slots + 12 + 6 * 0 ≤ 7215210; omega⟩) hS (fun q _ h => h.1) (fun q h => h.1) (fun q _ h => h.1) (fun E ce q9 u2 t2 H2 locs2 ht2 hal2 hp2 => absurd hp2.2 agr.no) (fun r2 u2 t2 H2 locs2 ht2 hal2 hp2 hB2 hz2 hfr2 hS => ?_)
  obtain ⟨y, rfl, hI, hag⟩ := hp2
  rw [ht2] at hB2
  have hO := hO.kept hfr2
  refine W.widen (k := cells + 8) (n := slots + 48) (by show cells + 2 + 0 ≤ cells + 8; omega) (by show slots + 12 + 6 * 0 ≤ slots + 48; omega) ?_
  refine lv_istore (lv' := [(6, .int (Int32.ofInt y)), (5, .int r), (4, .int (Int32.ofInt (i : Int))), (0, .ref b), (1, .ref (rho s.heap.size 149)), (2, .ref (rho s.heap.size 175)), (3, .ref (s.heap.size + 176))]) hx hb dL_law_1503 hl (by decide) rfl (fun ls hl => ?_)
  exact l_tailI C ⟨hB2, hI, hO⟩ hS (by decide) (by decide) hrel hag hl.1 (lv_at hl 5 rfl) (lv_at hl 6 rfl) (lv_at hl 1 rfl) (lv_at hl 0 rfl) dL_law_1505 dL_law_1506 dL_law_1509 dL_law_1511 dL_law_1516 dL_law_1518 dL_law_1521 dL_law_1522 dL_law_1523 dL_law_1524 dL_law_1526 dL_law_1527 dL_law_1528 dL_law_1533 (by decide) (by omega) (by omega) (fun H3 locs3 h3 hS3 => kk u2 _ H3 locs3 ls h3 hS3 (lv_sub hl [2, 3, 4, 5, 6] rfl))
set_option maxHeartbeats 4000000 in
set_option maxRecDepth 100000 in
theorem cs_23 {p : Program} {l : Launch} {e : Env} {s : State} {m : MethodId} {args : Array Value} {below : List Frame} {meth : Method} {c : Code} {H : Heap} {locs : List Loc} {cells slots : Nat} {Q : State → Prop} {ls : Array Slot} {D : va_G} {cA : Nat → ClassId} {sg : Nat → Nat} {b L i : Nat} {xs : Nat → Int32} {M : Mem} {z : Int64} (C : LC p l s m args c sg cA D b L xs) (hi : i + 5 ≤ L) (hc : cells + 8 ≤ 603072) (hs : slots + 48 ≤ 7215210) (hL : LWS cA D s.heap.size M z H) (hS : va_S (Al s.heap.size) s.heap H locs) (hl : lv_has ls 9 (LV b s.heap.size i))
    (kk : ∀ (M1 : Mem) (z1 : Int64) (H1 : Heap) (locs1 : List Loc) (ls1 : Array Slot), LWS cA D s.heap.size M1 z1 H1 → va_S (Al s.heap.size) s.heap H1 locs1 → lv_has ls1 9 (LV b s.heap.size i) → W p l e room_1 s m args below meth c H1 locs1 (cells + 8) (slots + 48) Q (F0 m 2729 ls1 [])) : W p l e room_1 s m args below meth c H locs cells slots Q (F0 m 1536 ls []) := by
  obtain ⟨htr, hx, hb, hml, hown, hts, hX, hbl, hfix, hnc, hLL⟩ := id C
  obtain ⟨hW, hI, hO⟩ := hL
  refine lv_aload_n hx hb dL_law_1536 rfl (lv_at hl 2 rfl) ?_
  refine l_arg C hS 1 (lv_at hl 1 rfl) (lv_at hl 0 rfl) hi (by decide) dL_law_1537 dL_law_1538 dL_law_1540 dL_law_1541 dL_law_1542 ?_
  refine l_arg C hS 2 (lv_at hl 1 rfl) (lv_at hl 0 rfl) hi (by decide) dL_law_1543 dL_law_1544 dL_law_1546 dL_law_1547 dL_law_1548 ?_
  refine l_arg C hS 3 (lv_at hl 1 rfl) (lv_at hl 0 rfl) hi (by decide) dL_law_1549 dL_law_1550 dL_law_1552 dL_law_1553 dL_law_1554 ?_
  refine l_arg C hS 4 (lv_at hl 1 rfl) (lv_at hl 0 rfl) hi (by decide) dL_law_1555 dL_law_1556 dL_law_1558 dL_law_1559 dL_law_1560 ?_
  refine lv_aload_n hx hb dL_law_1561 rfl (lv_at hl 4 rfl) ?_
  have hca := (h_serversFor (sc_r xs (i + 1)) (sc_r xs (i + 2)) (sc_r xs (i + 3)) (sc_r xs (i + 4))) M hI
  refine va_calli (vx_runSW (As := [.ref (rho s.heap.size 149), .int (Int32.ofInt (sc xs (i + 1))), .int (Int32.ofInt (sc xs (i + 2))), .int (Int32.ofInt (sc xs (i + 3))), .int (Int32.ofInt (sc xs (i + 4))), .ref (s.heap.size + 176)]) (rest := []) ⟨hx, hb, hml, hown, hts⟩ (hp_serversFor (sg := sg) (cA := cA) (D := D) (sz0 := s.heap.size) (z := z) htr hca (fun e9 M9 q9 => agr_es q9)) (vx_cwSW 6 hts (wsH_good wL_174 wL_175 wL_7 wL_176) rfl rfl rfl (by decide +kernel) ⟨Nat.le_of_ble_eq_true rfl, Nat.le_of_ble_eq_true rfl⟩) ⟨lPre_blind, fun U hU hW9 => ⟨rfl, ⟨(by rw [hU]; exact hW.1), hW.2.1, (by rw [hU]; exact hW.2.2), hfix.warm hW9 (fun q q1 q2 => by rw [hU]; exact hS.2.1 q q1 (fun h => absurd h (Nat.not_le.mpr q1)))⟩, (by rw [hU]; exact hO), hnc.moved hW9.alike⟩⟩ rfl rfl hl.1 rfl (lv_room (Nat.le_of_ble_eq_true rfl)) dL_law_1562 ⟨by show cells + 3 ≤ 603072; omega, by show slots + 18 ≤ 7215210; omega⟩) hS (fun q _ h => h) (fun q h => h) (fun r u t H1 locs1 ht hal hp hB hz1 hfr hS => ?_)
  obtain ⟨r0, hq, hrel⟩ := hp.rel
  obtain ⟨hW, hO⟩ := hB
  rw [ht] at hW hO
  refine lv_istore (lv' := [(5, .int r), (4, .int (Int32.ofInt (i : Int))), (0, .ref b), (1, .ref (rho s.heap.size 149)), (2, .ref (rho s.heap.size 175)), (3, .ref (s.heap.size + 176))]) hx hb dL_law_1565 hl (by decide) rfl (fun ls hl => ?_)
  refine lv_aload_n hx hb dL_law_1567 rfl (lv_at hl 4 rfl) ?_
  refine l_arg C hS 1 (lv_at hl 2 rfl) (lv_at hl 1 rfl) hi (by decide) dL_law_1568 dL_law_1569 dL_law_1571 dL_law_1572 dL_law_1573 ?_
  refine l_arg C hS 2 (lv_at hl 2 rfl) (lv_at hl 1 rfl) hi (by decide) dL_law_1574 dL_law_1575 dL_law_1577 dL_law_1578 dL_law_1579 ?_
  refine l_arg C hS 3 (lv_at hl 2 rfl) (lv_at hl 1 rfl) hi (by decide) dL_law_1580 dL_law_1581 dL_law_1583 dL_law_1584 dL_law_1585 ?_
  refine l_arg C hS 4 (lv_at hl 2 rfl) (lv_at hl 1 rfl) hi (by decide) dL_law_1586 dL_law_1587 dL_law_1589 dL_law_1590 dL_law_1591 ?_
  have hM := snd (ρ := rho s.heap.size) (sg := sg) (cA := cA) (D := D) (sz0 := s.heap.size) htr 10 cM_serversFor _ _ _ hq nM_serversFor rfl
  have hrv := va_recv hfix.1 hW.1 (gCl_at 12 (by decide)) (wWs_ob (show wOb 175 = 12 + 1 from by decide +kernel))
  refine vx_calli (vx_runV (As := [.int (Int32.ofInt (sc xs (i + 1))), .int (Int32.ofInt (sc xs (i + 2))), .int (Int32.ofInt (sc xs (i + 3))), .int (Int32.ofInt (sc xs (i + 4)))]) (rest := []) ⟨hx, hb, hml, hown, hts⟩ hM (cwV 4 hts (wsV_good wL_177 wL_178 wL_179 wL_3 wL_180) rfl rfl rfl (by decide +kernel) ⟨Nat.le_of_ble_eq_true rfl, Nat.le_of_ble_eq_true rfl⟩) ⟨wPic_blind, hrv, fun U hU hW9 => ⟨rfl, (by rw [hU]; exact hW.1), hW.2.1, (by rw [hU]; exact hW.2.2), hfix.warm hW9 (fun q q1 q2 => by rw [hU]; exact hS.2.1 q q1 (fun h => absurd h (Nat.not_le.mpr q1)))⟩⟩ rfl rfl hl.1 rfl (lv_room (Nat.le_of_ble_eq_true rfl)) dL_law_1592 ⟨by show cells + 3 + 0 ≤ 603072; omega, by show slots + 18 + 6 * 0 ≤ 7215210; omega⟩) hS (fun q _ h => h.1) (fun q h => h.1) (fun q _ h => h.1) (fun E ce q9 u2 t2 H2 locs2 ht2 hal2 hp2 => absurd hp2.2 agr.no) (fun r2 u2 t2 H2 locs2 ht2 hal2 hp2 hB2 hz2 hfr2 hS => ?_)
  obtain ⟨y, rfl, hI, hag⟩ := hp2
  rw [ht2] at hB2
  have hO := hO.kept hfr2
  refine W.widen (k := cells + 8) (n := slots + 48) (by show cells + 3 + 0 ≤ cells + 8; omega) (by show slots + 18 + 6 * 0 ≤ slots + 48; omega) ?_
  refine lv_istore (lv' := [(6, .int (Int32.ofInt y)), (5, .int r), (4, .int (Int32.ofInt (i : Int))), (0, .ref b), (1, .ref (rho s.heap.size 149)), (2, .ref (rho s.heap.size 175)), (3, .ref (s.heap.size + 176))]) hx hb dL_law_1595 hl (by decide) rfl (fun ls hl => ?_)
  exact l_tailI C ⟨hB2, hI, hO⟩ hS (by decide) (by decide) hrel hag hl.1 (lv_at hl 5 rfl) (lv_at hl 6 rfl) (lv_at hl 1 rfl) (lv_at hl 0 rfl) dL_law_1597 dL_law_1598 dL_law_1601 dL_law_1603 dL_law_1608 dL_law_1610 dL_law_1613 dL_law_1614 dL_law_1615 dL_law_1616 dL_law_1618 dL_law_1619 dL_law_1620 dL_law_1625 (by decide) (by omega) (by omega) (fun H3 locs3 h3 hS3 => kk u2 _ H3 locs3 ls h3 hS3 (lv_sub hl [2, 3, 4, 5, 6] rfl))
set_option maxHeartbeats 4000000 in
set_option maxRecDepth 100000 in
theorem cs_24 {p : Program} {l : Launch} {e : Env} {s : State} {m : MethodId} {args : Array Value} {below : List Frame} {meth : Method} {c : Code} {H : Heap} {locs : List Loc} {cells slots : Nat} {Q : State → Prop} {ls : Array Slot} {D : va_G} {cA : Nat → ClassId} {sg : Nat → Nat} {b L i : Nat} {xs : Nat → Int32} {M : Mem} {z : Int64} (C : LC p l s m args c sg cA D b L xs) (hi : i + 5 ≤ L) (hc : cells + 8 ≤ 603072) (hs : slots + 48 ≤ 7215210) (hL : LWS cA D s.heap.size M z H) (hS : va_S (Al s.heap.size) s.heap H locs) (hl : lv_has ls 9 (LV b s.heap.size i))
    (kk : ∀ (M1 : Mem) (z1 : Int64) (H1 : Heap) (locs1 : List Loc) (ls1 : Array Slot), LWS cA D s.heap.size M1 z1 H1 → va_S (Al s.heap.size) s.heap H1 locs1 → lv_has ls1 9 (LV b s.heap.size i) → W p l e room_1 s m args below meth c H1 locs1 (cells + 8) (slots + 48) Q (F0 m 2729 ls1 [])) : W p l e room_1 s m args below meth c H locs cells slots Q (F0 m 1628 ls []) := by
  obtain ⟨htr, hx, hb, hml, hown, hts, hX, hbl, hfix, hnc, hLL⟩ := id C
  obtain ⟨hW, hI, hO⟩ := hL
  refine lv_aload_n hx hb dL_law_1628 rfl (lv_at hl 2 rfl) ?_
  refine l_arg C hS 1 (lv_at hl 1 rfl) (lv_at hl 0 rfl) hi (by decide) dL_law_1629 dL_law_1630 dL_law_1632 dL_law_1633 dL_law_1634 ?_
  refine lv_aload_n hx hb dL_law_1635 rfl (lv_at hl 4 rfl) ?_
  have hca := (h_net (sc_r xs (i + 1))) M hI
  refine va_calli (vx_runSW (As := [.ref (rho s.heap.size 149), .int (Int32.ofInt (sc xs (i + 1))), .ref (s.heap.size + 176)]) (rest := []) ⟨hx, hb, hml, hown, hts⟩ (hp_net (sg := sg) (cA := cA) (D := D) (sz0 := s.heap.size) (z := z) htr hca (fun e9 M9 q9 => agr_es q9)) (vx_cwSW 3 hts (wsH_good wL_181 wL_182 wL_7 wL_183) rfl rfl rfl (by decide +kernel) ⟨Nat.le_of_ble_eq_true rfl, Nat.le_of_ble_eq_true rfl⟩) ⟨lPre_blind, fun U hU hW9 => ⟨rfl, ⟨(by rw [hU]; exact hW.1), hW.2.1, (by rw [hU]; exact hW.2.2), hfix.warm hW9 (fun q q1 q2 => by rw [hU]; exact hS.2.1 q q1 (fun h => absurd h (Nat.not_le.mpr q1)))⟩, (by rw [hU]; exact hO), hnc.moved hW9.alike⟩⟩ rfl rfl hl.1 rfl (lv_room (Nat.le_of_ble_eq_true rfl)) dL_law_1636 ⟨by show cells + 1 ≤ 603072; omega, by show slots + 6 ≤ 7215210; omega⟩) hS (fun q _ h => h) (fun q h => h) (fun r u t H1 locs1 ht hal hp hB hz1 hfr hS => ?_)
  obtain ⟨r0, hq, hrel⟩ := hp.rel
  obtain ⟨hW, hO⟩ := hB
  rw [ht] at hW hO
  refine lv_istore (lv' := [(5, .int r), (4, .int (Int32.ofInt (i : Int))), (0, .ref b), (1, .ref (rho s.heap.size 149)), (2, .ref (rho s.heap.size 175)), (3, .ref (s.heap.size + 176))]) hx hb dL_law_1639 hl (by decide) rfl (fun ls hl => ?_)
  refine lv_aload_n hx hb dL_law_1641 rfl (lv_at hl 4 rfl) ?_
  refine l_arg C hS 1 (lv_at hl 2 rfl) (lv_at hl 1 rfl) hi (by decide) dL_law_1642 dL_law_1643 dL_law_1645 dL_law_1646 dL_law_1647 ?_
  have hM := snd (ρ := rho s.heap.size) (sg := sg) (cA := cA) (D := D) (sz0 := s.heap.size) htr 10 cM_net _ _ _ hq nM_net rfl
  have hrv := va_recv hfix.1 hW.1 (gCl_at 12 (by decide)) (wWs_ob (show wOb 175 = 12 + 1 from by decide +kernel))
  refine vx_calli (vx_runV (As := [.int (Int32.ofInt (sc xs (i + 1)))]) (rest := []) ⟨hx, hb, hml, hown, hts⟩ hM (cwV 1 hts (wsV_good wL_184 wL_185 wL_186 wL_3 wL_187) rfl rfl rfl (by decide +kernel) ⟨Nat.le_of_ble_eq_true rfl, Nat.le_of_ble_eq_true rfl⟩) ⟨wPic_blind, hrv, fun U hU hW9 => ⟨rfl, (by rw [hU]; exact hW.1), hW.2.1, (by rw [hU]; exact hW.2.2), hfix.warm hW9 (fun q q1 q2 => by rw [hU]; exact hS.2.1 q q1 (fun h => absurd h (Nat.not_le.mpr q1)))⟩⟩ rfl rfl hl.1 rfl (lv_room (Nat.le_of_ble_eq_true rfl)) dL_law_1648 ⟨by show cells + 1 + 0 ≤ 603072; omega, by show slots + 6 + 6 * 0 ≤ 7215210; omega⟩) hS (fun q _ h => h.1) (fun q h => h.1) (fun q _ h => h.1) (fun E ce q9 u2 t2 H2 locs2 ht2 hal2 hp2 => absurd hp2.2 agr.no) (fun r2 u2 t2 H2 locs2 ht2 hal2 hp2 hB2 hz2 hfr2 hS => ?_)
  obtain ⟨y, rfl, hI, hag⟩ := hp2
  rw [ht2] at hB2
  have hO := hO.kept hfr2
  refine W.widen (k := cells + 8) (n := slots + 48) (by show cells + 1 + 0 ≤ cells + 8; omega) (by show slots + 6 + 6 * 0 ≤ slots + 48; omega) ?_
  refine lv_istore (lv' := [(6, .int (Int32.ofInt y)), (5, .int r), (4, .int (Int32.ofInt (i : Int))), (0, .ref b), (1, .ref (rho s.heap.size 149)), (2, .ref (rho s.heap.size 175)), (3, .ref (s.heap.size + 176))]) hx hb dL_law_1651 hl (by decide) rfl (fun ls hl => ?_)
  exact l_tailI C ⟨hB2, hI, hO⟩ hS (by decide) (by decide) hrel hag hl.1 (lv_at hl 5 rfl) (lv_at hl 6 rfl) (lv_at hl 1 rfl) (lv_at hl 0 rfl) dL_law_1653 dL_law_1654 dL_law_1657 dL_law_1659 dL_law_1664 dL_law_1666 dL_law_1669 dL_law_1670 dL_law_1671 dL_law_1672 dL_law_1674 dL_law_1675 dL_law_1676 dL_law_1681 (by decide) (by omega) (by omega) (fun H3 locs3 h3 hS3 => kk u2 _ H3 locs3 ls h3 hS3 (lv_sub hl [2, 3, 4, 5, 6] rfl))
set_option maxHeartbeats 4000000 in
set_option maxRecDepth 100000 in
theorem cs_25 {p : Program} {l : Launch} {e : Env} {s : State} {m : MethodId} {args : Array Value} {below : List Frame} {meth : Method} {c : Code} {H : Heap} {locs : List Loc} {cells slots : Nat} {Q : State → Prop} {ls : Array Slot} {D : va_G} {cA : Nat → ClassId} {sg : Nat → Nat} {b L i : Nat} {xs : Nat → Int32} {M : Mem} {z : Int64} (C : LC p l s m args c sg cA D b L xs) (hi : i + 5 ≤ L) (hc : cells + 8 ≤ 603072) (hs : slots + 48 ≤ 7215210) (hL : LWS cA D s.heap.size M z H) (hS : va_S (Al s.heap.size) s.heap H locs) (hl : lv_has ls 9 (LV b s.heap.size i))
    (kk : ∀ (M1 : Mem) (z1 : Int64) (H1 : Heap) (locs1 : List Loc) (ls1 : Array Slot), LWS cA D s.heap.size M1 z1 H1 → va_S (Al s.heap.size) s.heap H1 locs1 → lv_has ls1 9 (LV b s.heap.size i) → W p l e room_1 s m args below meth c H1 locs1 (cells + 8) (slots + 48) Q (F0 m 2729 ls1 [])) : W p l e room_1 s m args below meth c H locs cells slots Q (F0 m 1684 ls []) := by
  obtain ⟨htr, hx, hb, hml, hown, hts, hX, hbl, hfix, hnc, hLL⟩ := id C
  obtain ⟨hW, hI, hO⟩ := hL
  refine lv_aload_n hx hb dL_law_1684 rfl (lv_at hl 2 rfl) ?_
  refine l_arg C hS 1 (lv_at hl 1 rfl) (lv_at hl 0 rfl) hi (by decide) dL_law_1685 dL_law_1686 dL_law_1688 dL_law_1689 dL_law_1690 ?_
  refine l_arg C hS 2 (lv_at hl 1 rfl) (lv_at hl 0 rfl) hi (by decide) dL_law_1691 dL_law_1692 dL_law_1694 dL_law_1695 dL_law_1696 ?_
  refine l_arg C hS 3 (lv_at hl 1 rfl) (lv_at hl 0 rfl) hi (by decide) dL_law_1697 dL_law_1698 dL_law_1700 dL_law_1701 dL_law_1702 ?_
  refine lv_aload_n hx hb dL_law_1703 rfl (lv_at hl 4 rfl) ?_
  have hca := (h_node (sc_r xs (i + 1)) (sc_r xs (i + 2)) (sc_r xs (i + 3))) M hI
  refine va_calli (vx_runSW (As := [.ref (rho s.heap.size 149), .int (Int32.ofInt (sc xs (i + 1))), .int (Int32.ofInt (sc xs (i + 2))), .int (Int32.ofInt (sc xs (i + 3))), .ref (s.heap.size + 176)]) (rest := []) ⟨hx, hb, hml, hown, hts⟩ (hp_node (sg := sg) (cA := cA) (D := D) (sz0 := s.heap.size) (z := z) htr hca (fun e9 M9 q9 => agr_es q9)) (vx_cwSW 5 hts (wsH_good wL_188 wL_189 wL_7 wL_190) rfl rfl rfl (by decide +kernel) ⟨Nat.le_of_ble_eq_true rfl, Nat.le_of_ble_eq_true rfl⟩) ⟨lPre_blind, fun U hU hW9 => ⟨rfl, ⟨(by rw [hU]; exact hW.1), hW.2.1, (by rw [hU]; exact hW.2.2), hfix.warm hW9 (fun q q1 q2 => by rw [hU]; exact hS.2.1 q q1 (fun h => absurd h (Nat.not_le.mpr q1)))⟩, (by rw [hU]; exact hO), hnc.moved hW9.alike⟩⟩ rfl rfl hl.1 rfl (lv_room (Nat.le_of_ble_eq_true rfl)) dL_law_1704 ⟨by show cells + 2 ≤ 603072; omega, by show slots + 12 ≤ 7215210; omega⟩) hS (fun q _ h => h) (fun q h => h) (fun r u t H1 locs1 ht hal hp hB hz1 hfr hS => ?_)
  obtain ⟨r0, hq, hrel⟩ := hp.rel
  obtain ⟨hW, hO⟩ := hB
  rw [ht] at hW hO
  refine lv_istore (lv' := [(5, .int r), (4, .int (Int32.ofInt (i : Int))), (0, .ref b), (1, .ref (rho s.heap.size 149)), (2, .ref (rho s.heap.size 175)), (3, .ref (s.heap.size + 176))]) hx hb dL_law_1707 hl (by decide) rfl (fun ls hl => ?_)
  refine lv_aload_n hx hb dL_law_1709 rfl (lv_at hl 4 rfl) ?_
  refine l_arg C hS 1 (lv_at hl 2 rfl) (lv_at hl 1 rfl) hi (by decide) dL_law_1710 dL_law_1711 dL_law_1713 dL_law_1714 dL_law_1715 ?_
  refine l_arg C hS 2 (lv_at hl 2 rfl) (lv_at hl 1 rfl) hi (by decide) dL_law_1716 dL_law_1717 dL_law_1719 dL_law_1720 dL_law_1721 ?_
  refine l_arg C hS 3 (lv_at hl 2 rfl) (lv_at hl 1 rfl) hi (by decide) dL_law_1722 dL_law_1723 dL_law_1725 dL_law_1726 dL_law_1727 ?_
  have hM := snd (ρ := rho s.heap.size) (sg := sg) (cA := cA) (D := D) (sz0 := s.heap.size) htr 10 cM_node _ _ _ hq nM_node rfl
  have hrv := va_recv hfix.1 hW.1 (gCl_at 12 (by decide)) (wWs_ob (show wOb 175 = 12 + 1 from by decide +kernel))
  refine vx_calli (vx_runV (As := [.int (Int32.ofInt (sc xs (i + 1))), .int (Int32.ofInt (sc xs (i + 2))), .int (Int32.ofInt (sc xs (i + 3)))]) (rest := []) ⟨hx, hb, hml, hown, hts⟩ hM (cwV 3 hts (wsV_good wL_191 wL_192 wL_193 wL_3 wL_194) rfl rfl rfl (by decide +kernel) ⟨Nat.le_of_ble_eq_true rfl, Nat.le_of_ble_eq_true rfl⟩) ⟨wPic_blind, hrv, fun U hU hW9 => ⟨rfl, (by rw [hU]; exact hW.1), hW.2.1, (by rw [hU]; exact hW.2.2), hfix.warm hW9 (fun q q1 q2 => by rw [hU]; exact hS.2.1 q q1 (fun h => absurd h (Nat.not_le.mpr q1)))⟩⟩ rfl rfl hl.1 rfl (lv_room (Nat.le_of_ble_eq_true rfl)) dL_law_1728 ⟨by show cells + 2 + 0 ≤ 603072; omega, by show slots + 12 + 6 * 0 ≤ 7215210; omega⟩) hS (fun q _ h => h.1) (fun q h => h.1) (fun q _ h => h.1) (fun E ce q9 u2 t2 H2 locs2 ht2 hal2 hp2 => absurd hp2.2 agr.no) (fun r2 u2 t2 H2 locs2 ht2 hal2 hp2 hB2 hz2 hfr2 hS => ?_)
  obtain ⟨y, rfl, hI, hag⟩ := hp2
  rw [ht2] at hB2
  have hO := hO.kept hfr2
  refine W.widen (k := cells + 8) (n := slots + 48) (by show cells + 2 + 0 ≤ cells + 8; omega) (by show slots + 12 + 6 * 0 ≤ slots + 48; omega) ?_
  refine lv_istore (lv' := [(6, .int (Int32.ofInt y)), (5, .int r), (4, .int (Int32.ofInt (i : Int))), (0, .ref b), (1, .ref (rho s.heap.size 149)), (2, .ref (rho s.heap.size 175)), (3, .ref (s.heap.size + 176))]) hx hb dL_law_1731 hl (by decide) rfl (fun ls hl => ?_)
  exact l_tailI C ⟨hB2, hI, hO⟩ hS (by decide) (by decide) hrel hag hl.1 (lv_at hl 5 rfl) (lv_at hl 6 rfl) (lv_at hl 1 rfl) (lv_at hl 0 rfl) dL_law_1733 dL_law_1734 dL_law_1737 dL_law_1739 dL_law_1744 dL_law_1746 dL_law_1749 dL_law_1750 dL_law_1751 dL_law_1752 dL_law_1754 dL_law_1755 dL_law_1756 dL_law_1761 (by decide) (by omega) (by omega) (fun H3 locs3 h3 hS3 => kk u2 _ H3 locs3 ls h3 hS3 (lv_sub hl [2, 3, 4, 5, 6] rfl))
set_option maxHeartbeats 4000000 in
set_option maxRecDepth 100000 in
theorem cs_26 {p : Program} {l : Launch} {e : Env} {s : State} {m : MethodId} {args : Array Value} {below : List Frame} {meth : Method} {c : Code} {H : Heap} {locs : List Loc} {cells slots : Nat} {Q : State → Prop} {ls : Array Slot} {D : va_G} {cA : Nat → ClassId} {sg : Nat → Nat} {b L i : Nat} {xs : Nat → Int32} {M : Mem} {z : Int64} (C : LC p l s m args c sg cA D b L xs) (hi : i + 5 ≤ L) (hc : cells + 8 ≤ 603072) (hs : slots + 48 ≤ 7215210) (hL : LWS cA D s.heap.size M z H) (hS : va_S (Al s.heap.size) s.heap H locs) (hl : lv_has ls 9 (LV b s.heap.size i))
    (kk : ∀ (M1 : Mem) (z1 : Int64) (H1 : Heap) (locs1 : List Loc) (ls1 : Array Slot), LWS cA D s.heap.size M1 z1 H1 → va_S (Al s.heap.size) s.heap H1 locs1 → lv_has ls1 9 (LV b s.heap.size i) → W p l e room_1 s m args below meth c H1 locs1 (cells + 8) (slots + 48) Q (F0 m 2729 ls1 [])) : W p l e room_1 s m args below meth c H locs cells slots Q (F0 m 1764 ls []) := by
  obtain ⟨htr, hx, hb, hml, hown, hts, hX, hbl, hfix, hnc, hLL⟩ := id C
  obtain ⟨hW, hI, hO⟩ := hL
  refine lv_aload_n hx hb dL_law_1764 rfl (lv_at hl 2 rfl) ?_
  refine l_arg C hS 1 (lv_at hl 1 rfl) (lv_at hl 0 rfl) hi (by decide) dL_law_1765 dL_law_1766 dL_law_1768 dL_law_1769 dL_law_1770 ?_
  refine l_arg C hS 2 (lv_at hl 1 rfl) (lv_at hl 0 rfl) hi (by decide) dL_law_1771 dL_law_1772 dL_law_1774 dL_law_1775 dL_law_1776 ?_
  refine l_arg C hS 3 (lv_at hl 1 rfl) (lv_at hl 0 rfl) hi (by decide) dL_law_1777 dL_law_1778 dL_law_1780 dL_law_1781 dL_law_1782 ?_
  refine lv_aload_n hx hb dL_law_1783 rfl (lv_at hl 4 rfl) ?_
  have hca := (h_way (sc_r xs (i + 1)) (sc_r xs (i + 2)) (sc_r xs (i + 3))) M hI
  refine va_calli (vx_runSW (As := [.ref (rho s.heap.size 149), .int (Int32.ofInt (sc xs (i + 1))), .int (Int32.ofInt (sc xs (i + 2))), .int (Int32.ofInt (sc xs (i + 3))), .ref (s.heap.size + 176)]) (rest := []) ⟨hx, hb, hml, hown, hts⟩ (hp_way (sg := sg) (cA := cA) (D := D) (sz0 := s.heap.size) (z := z) htr hca (fun e9 M9 q9 => agr_es q9)) (vx_cwSW 5 hts (wsH_good wL_195 wL_196 wL_7 wL_197) rfl rfl rfl (by decide +kernel) ⟨Nat.le_of_ble_eq_true rfl, Nat.le_of_ble_eq_true rfl⟩) ⟨lPre_blind, fun U hU hW9 => ⟨rfl, ⟨(by rw [hU]; exact hW.1), hW.2.1, (by rw [hU]; exact hW.2.2), hfix.warm hW9 (fun q q1 q2 => by rw [hU]; exact hS.2.1 q q1 (fun h => absurd h (Nat.not_le.mpr q1)))⟩, (by rw [hU]; exact hO), hnc.moved hW9.alike⟩⟩ rfl rfl hl.1 rfl (lv_room (Nat.le_of_ble_eq_true rfl)) dL_law_1784 ⟨by show cells + 2 ≤ 603072; omega, by show slots + 12 ≤ 7215210; omega⟩) hS (fun q _ h => h) (fun q h => h) (fun r u t H1 locs1 ht hal hp hB hz1 hfr hS => ?_)
  obtain ⟨r0, hq, hrel⟩ := hp.rel
  obtain ⟨hW, hO⟩ := hB
  rw [ht] at hW hO
  refine lv_istore (lv' := [(5, .int r), (4, .int (Int32.ofInt (i : Int))), (0, .ref b), (1, .ref (rho s.heap.size 149)), (2, .ref (rho s.heap.size 175)), (3, .ref (s.heap.size + 176))]) hx hb dL_law_1787 hl (by decide) rfl (fun ls hl => ?_)
  refine lv_aload_n hx hb dL_law_1789 rfl (lv_at hl 4 rfl) ?_
  refine l_arg C hS 1 (lv_at hl 2 rfl) (lv_at hl 1 rfl) hi (by decide) dL_law_1790 dL_law_1791 dL_law_1793 dL_law_1794 dL_law_1795 ?_
  refine l_arg C hS 2 (lv_at hl 2 rfl) (lv_at hl 1 rfl) hi (by decide) dL_law_1796 dL_law_1797 dL_law_1799 dL_law_1800 dL_law_1801 ?_
  refine l_arg C hS 3 (lv_at hl 2 rfl) (lv_at hl 1 rfl) hi (by decide) dL_law_1802 dL_law_1803 dL_law_1805 dL_law_1806 dL_law_1807 ?_
  have hM := snd (ρ := rho s.heap.size) (sg := sg) (cA := cA) (D := D) (sz0 := s.heap.size) htr 10 cM_way _ _ _ hq nM_way rfl
  have hrv := va_recv hfix.1 hW.1 (gCl_at 12 (by decide)) (wWs_ob (show wOb 175 = 12 + 1 from by decide +kernel))
  refine vx_calli (vx_runV (As := [.int (Int32.ofInt (sc xs (i + 1))), .int (Int32.ofInt (sc xs (i + 2))), .int (Int32.ofInt (sc xs (i + 3)))]) (rest := []) ⟨hx, hb, hml, hown, hts⟩ hM (cwV 3 hts (wsV_good wL_198 wL_199 wL_200 wL_3 wL_201) rfl rfl rfl (by decide +kernel) ⟨Nat.le_of_ble_eq_true rfl, Nat.le_of_ble_eq_true rfl⟩) ⟨wPic_blind, hrv, fun U hU hW9 => ⟨rfl, (by rw [hU]; exact hW.1), hW.2.1, (by rw [hU]; exact hW.2.2), hfix.warm hW9 (fun q q1 q2 => by rw [hU]; exact hS.2.1 q q1 (fun h => absurd h (Nat.not_le.mpr q1)))⟩⟩ rfl rfl hl.1 rfl (lv_room (Nat.le_of_ble_eq_true rfl)) dL_law_1808 ⟨by show cells + 2 + 0 ≤ 603072; omega, by show slots + 12 + 6 * 0 ≤ 7215210; omega⟩) hS (fun q _ h => h.1) (fun q h => h.1) (fun q _ h => h.1) (fun E ce q9 u2 t2 H2 locs2 ht2 hal2 hp2 => absurd hp2.2 agr.no) (fun r2 u2 t2 H2 locs2 ht2 hal2 hp2 hB2 hz2 hfr2 hS => ?_)
  obtain ⟨y, rfl, hI, hag⟩ := hp2
  rw [ht2] at hB2
  have hO := hO.kept hfr2
  refine W.widen (k := cells + 8) (n := slots + 48) (by show cells + 2 + 0 ≤ cells + 8; omega) (by show slots + 12 + 6 * 0 ≤ slots + 48; omega) ?_
  refine lv_istore (lv' := [(6, .int (Int32.ofInt y)), (5, .int r), (4, .int (Int32.ofInt (i : Int))), (0, .ref b), (1, .ref (rho s.heap.size 149)), (2, .ref (rho s.heap.size 175)), (3, .ref (s.heap.size + 176))]) hx hb dL_law_1811 hl (by decide) rfl (fun ls hl => ?_)
  exact l_tailI C ⟨hB2, hI, hO⟩ hS (by decide) (by decide) hrel hag hl.1 (lv_at hl 5 rfl) (lv_at hl 6 rfl) (lv_at hl 1 rfl) (lv_at hl 0 rfl) dL_law_1813 dL_law_1814 dL_law_1817 dL_law_1819 dL_law_1824 dL_law_1826 dL_law_1829 dL_law_1830 dL_law_1831 dL_law_1832 dL_law_1834 dL_law_1835 dL_law_1836 dL_law_1841 (by decide) (by omega) (by omega) (fun H3 locs3 h3 hS3 => kk u2 _ H3 locs3 ls h3 hS3 (lv_sub hl [2, 3, 4, 5, 6] rfl))
set_option maxHeartbeats 4000000 in
set_option maxRecDepth 100000 in
theorem cs_27 {p : Program} {l : Launch} {e : Env} {s : State} {m : MethodId} {args : Array Value} {below : List Frame} {meth : Method} {c : Code} {H : Heap} {locs : List Loc} {cells slots : Nat} {Q : State → Prop} {ls : Array Slot} {D : va_G} {cA : Nat → ClassId} {sg : Nat → Nat} {b L i : Nat} {xs : Nat → Int32} {M : Mem} {z : Int64} (C : LC p l s m args c sg cA D b L xs) (hi : i + 5 ≤ L) (hc : cells + 8 ≤ 603072) (hs : slots + 48 ≤ 7215210) (hL : LWS cA D s.heap.size M z H) (hS : va_S (Al s.heap.size) s.heap H locs) (hl : lv_has ls 9 (LV b s.heap.size i))
    (kk : ∀ (M1 : Mem) (z1 : Int64) (H1 : Heap) (locs1 : List Loc) (ls1 : Array Slot), LWS cA D s.heap.size M1 z1 H1 → va_S (Al s.heap.size) s.heap H1 locs1 → lv_has ls1 9 (LV b s.heap.size i) → W p l e room_1 s m args below meth c H1 locs1 (cells + 8) (slots + 48) Q (F0 m 2729 ls1 [])) : W p l e room_1 s m args below meth c H locs cells slots Q (F0 m 1844 ls []) := by
  obtain ⟨htr, hx, hb, hml, hown, hts, hX, hbl, hfix, hnc, hLL⟩ := id C
  obtain ⟨hW, hI, hO⟩ := hL
  refine lv_aload_n hx hb dL_law_1844 rfl (lv_at hl 2 rfl) ?_
  refine l_arg C hS 1 (lv_at hl 1 rfl) (lv_at hl 0 rfl) hi (by decide) dL_law_1845 dL_law_1846 dL_law_1848 dL_law_1849 dL_law_1850 ?_
  refine lv_aload_n hx hb dL_law_1851 rfl (lv_at hl 4 rfl) ?_
  have hca := (h_rate (sc_r xs (i + 1))) M hI
  refine va_calli (vx_runSW (As := [.ref (rho s.heap.size 149), .int (Int32.ofInt (sc xs (i + 1))), .ref (s.heap.size + 176)]) (rest := []) ⟨hx, hb, hml, hown, hts⟩ (hp_rate (sg := sg) (cA := cA) (D := D) (sz0 := s.heap.size) (z := z) htr hca (fun e9 M9 q9 => agr_es q9)) (vx_cwSW 3 hts (wsH_good wL_202 wL_203 wL_7 wL_204) rfl rfl rfl (by decide +kernel) ⟨Nat.le_of_ble_eq_true rfl, Nat.le_of_ble_eq_true rfl⟩) ⟨lPre_blind, fun U hU hW9 => ⟨rfl, ⟨(by rw [hU]; exact hW.1), hW.2.1, (by rw [hU]; exact hW.2.2), hfix.warm hW9 (fun q q1 q2 => by rw [hU]; exact hS.2.1 q q1 (fun h => absurd h (Nat.not_le.mpr q1)))⟩, (by rw [hU]; exact hO), hnc.moved hW9.alike⟩⟩ rfl rfl hl.1 rfl (lv_room (Nat.le_of_ble_eq_true rfl)) dL_law_1852 ⟨by show cells + 2 ≤ 603072; omega, by show slots + 12 ≤ 7215210; omega⟩) hS (fun q _ h => h) (fun q h => h) (fun r u t H1 locs1 ht hal hp hB hz1 hfr hS => ?_)
  obtain ⟨r0, hq, hrel⟩ := hp.rel
  obtain ⟨hW, hO⟩ := hB
  rw [ht] at hW hO
  refine lv_istore (lv' := [(5, .int r), (4, .int (Int32.ofInt (i : Int))), (0, .ref b), (1, .ref (rho s.heap.size 149)), (2, .ref (rho s.heap.size 175)), (3, .ref (s.heap.size + 176))]) hx hb dL_law_1855 hl (by decide) rfl (fun ls hl => ?_)
  refine lv_aload_n hx hb dL_law_1857 rfl (lv_at hl 4 rfl) ?_
  refine l_arg C hS 1 (lv_at hl 2 rfl) (lv_at hl 1 rfl) hi (by decide) dL_law_1858 dL_law_1859 dL_law_1861 dL_law_1862 dL_law_1863 ?_
  have hM := snd (ρ := rho s.heap.size) (sg := sg) (cA := cA) (D := D) (sz0 := s.heap.size) htr 10 cM_rate _ _ _ hq nM_rate rfl
  have hrv := va_recv hfix.1 hW.1 (gCl_at 12 (by decide)) (wWs_ob (show wOb 175 = 12 + 1 from by decide +kernel))
  refine vx_calli (vx_runV (As := [.int (Int32.ofInt (sc xs (i + 1)))]) (rest := []) ⟨hx, hb, hml, hown, hts⟩ hM (cwV 1 hts (wsV_good wL_205 wL_206 wL_207 wL_3 wL_208) rfl rfl rfl (by decide +kernel) ⟨Nat.le_of_ble_eq_true rfl, Nat.le_of_ble_eq_true rfl⟩) ⟨wPic_blind, hrv, fun U hU hW9 => ⟨rfl, (by rw [hU]; exact hW.1), hW.2.1, (by rw [hU]; exact hW.2.2), hfix.warm hW9 (fun q q1 q2 => by rw [hU]; exact hS.2.1 q q1 (fun h => absurd h (Nat.not_le.mpr q1)))⟩⟩ rfl rfl hl.1 rfl (lv_room (Nat.le_of_ble_eq_true rfl)) dL_law_1864 ⟨by show cells + 2 + 0 ≤ 603072; omega, by show slots + 12 + 6 * 0 ≤ 7215210; omega⟩) hS (fun q _ h => h.1) (fun q h => h.1) (fun q _ h => h.1) (fun E ce q9 u2 t2 H2 locs2 ht2 hal2 hp2 => absurd hp2.2 agr.no) (fun r2 u2 t2 H2 locs2 ht2 hal2 hp2 hB2 hz2 hfr2 hS => ?_)
  obtain ⟨y, rfl, hI, hag⟩ := hp2
  rw [ht2] at hB2
  have hO := hO.kept hfr2
  refine W.widen (k := cells + 8) (n := slots + 48) (by show cells + 2 + 0 ≤ cells + 8; omega) (by show slots + 12 + 6 * 0 ≤ slots + 48; omega) ?_
  refine lv_istore (lv' := [(6, .int (Int32.ofInt y)), (5, .int r), (4, .int (Int32.ofInt (i : Int))), (0, .ref b), (1, .ref (rho s.heap.size 149)), (2, .ref (rho s.heap.size 175)), (3, .ref (s.heap.size + 176))]) hx hb dL_law_1867 hl (by decide) rfl (fun ls hl => ?_)
  exact l_tailI C ⟨hB2, hI, hO⟩ hS (by decide) (by decide) hrel hag hl.1 (lv_at hl 5 rfl) (lv_at hl 6 rfl) (lv_at hl 1 rfl) (lv_at hl 0 rfl) dL_law_1869 dL_law_1870 dL_law_1873 dL_law_1875 dL_law_1880 dL_law_1882 dL_law_1885 dL_law_1886 dL_law_1887 dL_law_1888 dL_law_1890 dL_law_1891 dL_law_1892 dL_law_1897 (by decide) (by omega) (by omega) (fun H3 locs3 h3 hS3 => kk u2 _ H3 locs3 ls h3 hS3 (lv_sub hl [2, 3, 4, 5, 6] rfl))
set_option maxHeartbeats 4000000 in
set_option maxRecDepth 100000 in
theorem cs_28 {p : Program} {l : Launch} {e : Env} {s : State} {m : MethodId} {args : Array Value} {below : List Frame} {meth : Method} {c : Code} {H : Heap} {locs : List Loc} {cells slots : Nat} {Q : State → Prop} {ls : Array Slot} {D : va_G} {cA : Nat → ClassId} {sg : Nat → Nat} {b L i : Nat} {xs : Nat → Int32} {M : Mem} {z : Int64} (C : LC p l s m args c sg cA D b L xs) (hi : i + 5 ≤ L) (hc : cells + 8 ≤ 603072) (hs : slots + 48 ≤ 7215210) (hL : LWS cA D s.heap.size M z H) (hS : va_S (Al s.heap.size) s.heap H locs) (hl : lv_has ls 9 (LV b s.heap.size i))
    (kk : ∀ (M1 : Mem) (z1 : Int64) (H1 : Heap) (locs1 : List Loc) (ls1 : Array Slot), LWS cA D s.heap.size M1 z1 H1 → va_S (Al s.heap.size) s.heap H1 locs1 → lv_has ls1 9 (LV b s.heap.size i) → W p l e room_1 s m args below meth c H1 locs1 (cells + 8) (slots + 48) Q (F0 m 2729 ls1 [])) : W p l e room_1 s m args below meth c H locs cells slots Q (F0 m 1900 ls []) := by
  obtain ⟨htr, hx, hb, hml, hown, hts, hX, hbl, hfix, hnc, hLL⟩ := id C
  obtain ⟨hW, hI, hO⟩ := hL
  refine lv_aload_n hx hb dL_law_1900 rfl (lv_at hl 2 rfl) ?_
  refine l_arg C hS 1 (lv_at hl 1 rfl) (lv_at hl 0 rfl) hi (by decide) dL_law_1901 dL_law_1902 dL_law_1904 dL_law_1905 dL_law_1906 ?_
  refine lv_aload_n hx hb dL_law_1907 rfl (lv_at hl 4 rfl) ?_
  have hca := (h_isStable (sc_r xs (i + 1))) M hI
  refine va_calli (vx_runSW (As := [.ref (rho s.heap.size 149), .int (Int32.ofInt (sc xs (i + 1))), .ref (s.heap.size + 176)]) (rest := []) ⟨hx, hb, hml, hown, hts⟩ (hp_isStable (sg := sg) (cA := cA) (D := D) (sz0 := s.heap.size) (z := z) htr hca (fun e9 M9 q9 => agr_es q9)) (vx_cwSW 3 hts (wsH_good wL_209 wL_210 wL_7 wL_211) rfl rfl rfl (by decide +kernel) ⟨Nat.le_of_ble_eq_true rfl, Nat.le_of_ble_eq_true rfl⟩) ⟨lPre_blind, fun U hU hW9 => ⟨rfl, ⟨(by rw [hU]; exact hW.1), hW.2.1, (by rw [hU]; exact hW.2.2), hfix.warm hW9 (fun q q1 q2 => by rw [hU]; exact hS.2.1 q q1 (fun h => absurd h (Nat.not_le.mpr q1)))⟩, (by rw [hU]; exact hO), hnc.moved hW9.alike⟩⟩ rfl rfl hl.1 rfl (lv_room (Nat.le_of_ble_eq_true rfl)) dL_law_1908 ⟨by show cells + 2 ≤ 603072; omega, by show slots + 12 ≤ 7215210; omega⟩) hS (fun q _ h => h) (fun q h => h) (fun r u t H1 locs1 ht hal hp hB hz1 hfr hS => ?_)
  obtain ⟨r0, hq, hrel⟩ := hp.rel
  obtain ⟨hW, hO⟩ := hB
  rw [ht] at hW hO
  refine lv_istore (lv' := [(5, .int r), (4, .int (Int32.ofInt (i : Int))), (0, .ref b), (1, .ref (rho s.heap.size 149)), (2, .ref (rho s.heap.size 175)), (3, .ref (s.heap.size + 176))]) hx hb dL_law_1911 hl (by decide) rfl (fun ls hl => ?_)
  refine lv_aload_n hx hb dL_law_1913 rfl (lv_at hl 4 rfl) ?_
  refine l_arg C hS 1 (lv_at hl 2 rfl) (lv_at hl 1 rfl) hi (by decide) dL_law_1914 dL_law_1915 dL_law_1917 dL_law_1918 dL_law_1919 ?_
  have hM := snd (ρ := rho s.heap.size) (sg := sg) (cA := cA) (D := D) (sz0 := s.heap.size) htr 10 cM_isStable _ _ _ hq nM_isStable rfl
  have hrv := va_recv hfix.1 hW.1 (gCl_at 12 (by decide)) (wWs_ob (show wOb 175 = 12 + 1 from by decide +kernel))
  refine vx_calli (vx_runV (As := [.int (Int32.ofInt (sc xs (i + 1)))]) (rest := []) ⟨hx, hb, hml, hown, hts⟩ hM (cwV 1 hts (wsV_good wL_212 wL_213 wL_214 wL_3 wL_215) rfl rfl rfl (by decide +kernel) ⟨Nat.le_of_ble_eq_true rfl, Nat.le_of_ble_eq_true rfl⟩) ⟨wPic_blind, hrv, fun U hU hW9 => ⟨rfl, (by rw [hU]; exact hW.1), hW.2.1, (by rw [hU]; exact hW.2.2), hfix.warm hW9 (fun q q1 q2 => by rw [hU]; exact hS.2.1 q q1 (fun h => absurd h (Nat.not_le.mpr q1)))⟩⟩ rfl rfl hl.1 rfl (lv_room (Nat.le_of_ble_eq_true rfl)) dL_law_1920 ⟨by show cells + 2 + 0 ≤ 603072; omega, by show slots + 12 + 6 * 0 ≤ 7215210; omega⟩) hS (fun q _ h => h.1) (fun q h => h.1) (fun q _ h => h.1) (fun E ce q9 u2 t2 H2 locs2 ht2 hal2 hp2 => absurd hp2.2 agr.no) (fun r2 u2 t2 H2 locs2 ht2 hal2 hp2 hB2 hz2 hfr2 hS => ?_)
  obtain ⟨y, rfl, hI, hag⟩ := hp2
  rw [ht2] at hB2
  have hO := hO.kept hfr2
  refine W.widen (k := cells + 8) (n := slots + 48) (by show cells + 2 + 0 ≤ cells + 8; omega) (by show slots + 12 + 6 * 0 ≤ slots + 48; omega) ?_
  refine lv_istore (lv' := [(6, .int (Int32.ofInt y)), (5, .int r), (4, .int (Int32.ofInt (i : Int))), (0, .ref b), (1, .ref (rho s.heap.size 149)), (2, .ref (rho s.heap.size 175)), (3, .ref (s.heap.size + 176))]) hx hb dL_law_1923 hl (by decide) rfl (fun ls hl => ?_)
  exact l_tailB C ⟨hB2, hI, hO⟩ hS (by decide) (by decide) hrel hag hl.1 (lv_at hl 5 rfl) (lv_at hl 6 rfl) (lv_at hl 1 rfl) (lv_at hl 0 rfl) dL_law_1925 dL_law_1926 dL_law_1929 dL_law_1931 dL_law_1936 dL_law_1938 dL_law_1941 dL_law_1942 dL_law_1943 dL_law_1944 dL_law_1946 dL_law_1949 dL_law_1950 dL_law_1953 dL_law_1954 dL_law_1955 dL_law_1960 (by decide) (by omega) (by omega) (fun H3 locs3 h3 hS3 => kk u2 _ H3 locs3 ls h3 hS3 (lv_sub hl [2, 3, 4, 5, 6] rfl))
set_option maxHeartbeats 4000000 in
set_option maxRecDepth 100000 in
theorem cs_29 {p : Program} {l : Launch} {e : Env} {s : State} {m : MethodId} {args : Array Value} {below : List Frame} {meth : Method} {c : Code} {H : Heap} {locs : List Loc} {cells slots : Nat} {Q : State → Prop} {ls : Array Slot} {D : va_G} {cA : Nat → ClassId} {sg : Nat → Nat} {b L i : Nat} {xs : Nat → Int32} {M : Mem} {z : Int64} (C : LC p l s m args c sg cA D b L xs) (hi : i + 5 ≤ L) (hc : cells + 8 ≤ 603072) (hs : slots + 48 ≤ 7215210) (hL : LWS cA D s.heap.size M z H) (hS : va_S (Al s.heap.size) s.heap H locs) (hl : lv_has ls 9 (LV b s.heap.size i))
    (kk : ∀ (M1 : Mem) (z1 : Int64) (H1 : Heap) (locs1 : List Loc) (ls1 : Array Slot), LWS cA D s.heap.size M1 z1 H1 → va_S (Al s.heap.size) s.heap H1 locs1 → lv_has ls1 9 (LV b s.heap.size i) → W p l e room_1 s m args below meth c H1 locs1 (cells + 8) (slots + 48) Q (F0 m 2729 ls1 [])) : W p l e room_1 s m args below meth c H locs cells slots Q (F0 m 1963 ls []) := by
  obtain ⟨htr, hx, hb, hml, hown, hts, hX, hbl, hfix, hnc, hLL⟩ := id C
  obtain ⟨hW, hI, hO⟩ := hL
  refine lv_aload_n hx hb dL_law_1963 rfl (lv_at hl 2 rfl) ?_
  refine l_arg C hS 1 (lv_at hl 1 rfl) (lv_at hl 0 rfl) hi (by decide) dL_law_1964 dL_law_1965 dL_law_1967 dL_law_1968 dL_law_1969 ?_
  refine l_arg C hS 2 (lv_at hl 1 rfl) (lv_at hl 0 rfl) hi (by decide) dL_law_1970 dL_law_1971 dL_law_1973 dL_law_1974 dL_law_1975 ?_
  refine lv_aload_n hx hb dL_law_1976 rfl (lv_at hl 4 rfl) ?_
  have hca := (h_numbers (sc_r xs (i + 1)) (sc_r xs (i + 2))) M hI
  refine va_calli (vx_runSW (As := [.ref (rho s.heap.size 149), .int (Int32.ofInt (sc xs (i + 1))), .int (Int32.ofInt (sc xs (i + 2))), .ref (s.heap.size + 176)]) (rest := []) ⟨hx, hb, hml, hown, hts⟩ (hp_numbers (sg := sg) (cA := cA) (D := D) (sz0 := s.heap.size) (z := z) htr hca (fun e9 M9 q9 => agr_es q9)) (vx_cwSW 4 hts (wsH_good wL_216 wL_217 wL_7 wL_218) rfl rfl rfl (by decide +kernel) ⟨Nat.le_of_ble_eq_true rfl, Nat.le_of_ble_eq_true rfl⟩) ⟨lPre_blind, fun U hU hW9 => ⟨rfl, ⟨(by rw [hU]; exact hW.1), hW.2.1, (by rw [hU]; exact hW.2.2), hfix.warm hW9 (fun q q1 q2 => by rw [hU]; exact hS.2.1 q q1 (fun h => absurd h (Nat.not_le.mpr q1)))⟩, (by rw [hU]; exact hO), hnc.moved hW9.alike⟩⟩ rfl rfl hl.1 rfl (lv_room (Nat.le_of_ble_eq_true rfl)) dL_law_1977 ⟨by show cells + 3 ≤ 603072; omega, by show slots + 18 ≤ 7215210; omega⟩) hS (fun q _ h => h) (fun q h => h) (fun r u t H1 locs1 ht hal hp hB hz1 hfr hS => ?_)
  obtain ⟨r0, hq, hrel⟩ := hp.rel
  obtain ⟨hW, hO⟩ := hB
  rw [ht] at hW hO
  refine lv_istore (lv' := [(5, .int r), (4, .int (Int32.ofInt (i : Int))), (0, .ref b), (1, .ref (rho s.heap.size 149)), (2, .ref (rho s.heap.size 175)), (3, .ref (s.heap.size + 176))]) hx hb dL_law_1980 hl (by decide) rfl (fun ls hl => ?_)
  refine lv_aload_n hx hb dL_law_1982 rfl (lv_at hl 4 rfl) ?_
  refine l_arg C hS 1 (lv_at hl 2 rfl) (lv_at hl 1 rfl) hi (by decide) dL_law_1983 dL_law_1984 dL_law_1986 dL_law_1987 dL_law_1988 ?_
  refine l_arg C hS 2 (lv_at hl 2 rfl) (lv_at hl 1 rfl) hi (by decide) dL_law_1989 dL_law_1990 dL_law_1992 dL_law_1993 dL_law_1994 ?_
  have hM := snd (ρ := rho s.heap.size) (sg := sg) (cA := cA) (D := D) (sz0 := s.heap.size) htr 10 cM_numbers _ _ _ hq nM_numbers rfl
  have hrv := va_recv hfix.1 hW.1 (gCl_at 12 (by decide)) (wWs_ob (show wOb 175 = 12 + 1 from by decide +kernel))
  refine vx_calli (vx_runV (As := [.int (Int32.ofInt (sc xs (i + 1))), .int (Int32.ofInt (sc xs (i + 2)))]) (rest := []) ⟨hx, hb, hml, hown, hts⟩ hM (cwV 2 hts (wsV_good wL_219 wL_220 wL_221 wL_3 wL_222) rfl rfl rfl (by decide +kernel) ⟨Nat.le_of_ble_eq_true rfl, Nat.le_of_ble_eq_true rfl⟩) ⟨wPic_blind, hrv, fun U hU hW9 => ⟨rfl, (by rw [hU]; exact hW.1), hW.2.1, (by rw [hU]; exact hW.2.2), hfix.warm hW9 (fun q q1 q2 => by rw [hU]; exact hS.2.1 q q1 (fun h => absurd h (Nat.not_le.mpr q1)))⟩⟩ rfl rfl hl.1 rfl (lv_room (Nat.le_of_ble_eq_true rfl)) dL_law_1995 ⟨by show cells + 3 + 0 ≤ 603072; omega, by show slots + 18 + 6 * 0 ≤ 7215210; omega⟩) hS (fun q _ h => h.1) (fun q h => h.1) (fun q _ h => h.1) (fun E ce q9 u2 t2 H2 locs2 ht2 hal2 hp2 => absurd hp2.2 agr.no) (fun r2 u2 t2 H2 locs2 ht2 hal2 hp2 hB2 hz2 hfr2 hS => ?_)
  obtain ⟨y, rfl, hI, hag⟩ := hp2
  rw [ht2] at hB2
  have hO := hO.kept hfr2
  refine W.widen (k := cells + 8) (n := slots + 48) (by show cells + 3 + 0 ≤ cells + 8; omega) (by show slots + 18 + 6 * 0 ≤ slots + 48; omega) ?_
  refine lv_istore (lv' := [(6, .int (Int32.ofInt y)), (5, .int r), (4, .int (Int32.ofInt (i : Int))), (0, .ref b), (1, .ref (rho s.heap.size 149)), (2, .ref (rho s.heap.size 175)), (3, .ref (s.heap.size + 176))]) hx hb dL_law_1998 hl (by decide) rfl (fun ls hl => ?_)
  exact l_tailI C ⟨hB2, hI, hO⟩ hS (by decide) (by decide) hrel hag hl.1 (lv_at hl 5 rfl) (lv_at hl 6 rfl) (lv_at hl 1 rfl) (lv_at hl 0 rfl) dL_law_2000 dL_law_2001 dL_law_2004 dL_law_2006 dL_law_2011 dL_law_2013 dL_law_2016 dL_law_2017 dL_law_2018 dL_law_2019 dL_law_2021 dL_law_2022 dL_law_2023 dL_law_2028 (by decide) (by omega) (by omega) (fun H3 locs3 h3 hS3 => kk u2 _ H3 locs3 ls h3 hS3 (lv_sub hl [2, 3, 4, 5, 6] rfl))
set_option maxHeartbeats 4000000 in
set_option maxRecDepth 100000 in
theorem cs_30 {p : Program} {l : Launch} {e : Env} {s : State} {m : MethodId} {args : Array Value} {below : List Frame} {meth : Method} {c : Code} {H : Heap} {locs : List Loc} {cells slots : Nat} {Q : State → Prop} {ls : Array Slot} {D : va_G} {cA : Nat → ClassId} {sg : Nat → Nat} {b L i : Nat} {xs : Nat → Int32} {M : Mem} {z : Int64} (C : LC p l s m args c sg cA D b L xs) (hi : i + 5 ≤ L) (hc : cells + 8 ≤ 603072) (hs : slots + 48 ≤ 7215210) (hL : LWS cA D s.heap.size M z H) (hS : va_S (Al s.heap.size) s.heap H locs) (hl : lv_has ls 9 (LV b s.heap.size i))
    (kk : ∀ (M1 : Mem) (z1 : Int64) (H1 : Heap) (locs1 : List Loc) (ls1 : Array Slot), LWS cA D s.heap.size M1 z1 H1 → va_S (Al s.heap.size) s.heap H1 locs1 → lv_has ls1 9 (LV b s.heap.size i) → W p l e room_1 s m args below meth c H1 locs1 (cells + 8) (slots + 48) Q (F0 m 2729 ls1 [])) : W p l e room_1 s m args below meth c H locs cells slots Q (F0 m 2031 ls []) := by
  obtain ⟨htr, hx, hb, hml, hown, hts, hX, hbl, hfix, hnc, hLL⟩ := id C
  obtain ⟨hW, hI, hO⟩ := hL
  refine lv_aload_n hx hb dL_law_2031 rfl (lv_at hl 2 rfl) ?_
  refine l_arg C hS 1 (lv_at hl 1 rfl) (lv_at hl 0 rfl) hi (by decide) dL_law_2032 dL_law_2033 dL_law_2035 dL_law_2036 dL_law_2037 ?_
  refine lv_aload_n hx hb dL_law_2038 rfl (lv_at hl 4 rfl) ?_
  have hca := (h_growth (sc_r xs (i + 1))) M hI
  refine va_calli (vx_runSW (As := [.ref (rho s.heap.size 149), .int (Int32.ofInt (sc xs (i + 1))), .ref (s.heap.size + 176)]) (rest := []) ⟨hx, hb, hml, hown, hts⟩ (hp_growth (sg := sg) (cA := cA) (D := D) (sz0 := s.heap.size) (z := z) htr hca (fun e9 M9 q9 => agr_es q9)) (vx_cwSW 3 hts (wsH_good wL_223 wL_224 wL_7 wL_225) rfl rfl rfl (by decide +kernel) ⟨Nat.le_of_ble_eq_true rfl, Nat.le_of_ble_eq_true rfl⟩) ⟨lPre_blind, fun U hU hW9 => ⟨rfl, ⟨(by rw [hU]; exact hW.1), hW.2.1, (by rw [hU]; exact hW.2.2), hfix.warm hW9 (fun q q1 q2 => by rw [hU]; exact hS.2.1 q q1 (fun h => absurd h (Nat.not_le.mpr q1)))⟩, (by rw [hU]; exact hO), hnc.moved hW9.alike⟩⟩ rfl rfl hl.1 rfl (lv_room (Nat.le_of_ble_eq_true rfl)) dL_law_2039 ⟨by show cells + 2 ≤ 603072; omega, by show slots + 12 ≤ 7215210; omega⟩) hS (fun q _ h => h) (fun q h => h) (fun r u t H1 locs1 ht hal hp hB hz1 hfr hS => ?_)
  obtain ⟨r0, hq, hrel⟩ := hp.rel
  obtain ⟨hW, hO⟩ := hB
  rw [ht] at hW hO
  refine lv_istore (lv' := [(5, .int r), (4, .int (Int32.ofInt (i : Int))), (0, .ref b), (1, .ref (rho s.heap.size 149)), (2, .ref (rho s.heap.size 175)), (3, .ref (s.heap.size + 176))]) hx hb dL_law_2042 hl (by decide) rfl (fun ls hl => ?_)
  refine lv_aload_n hx hb dL_law_2044 rfl (lv_at hl 4 rfl) ?_
  refine l_arg C hS 1 (lv_at hl 2 rfl) (lv_at hl 1 rfl) hi (by decide) dL_law_2045 dL_law_2046 dL_law_2048 dL_law_2049 dL_law_2050 ?_
  have hM := snd (ρ := rho s.heap.size) (sg := sg) (cA := cA) (D := D) (sz0 := s.heap.size) htr 10 cM_growth _ _ _ hq nM_growth rfl
  have hrv := va_recv hfix.1 hW.1 (gCl_at 12 (by decide)) (wWs_ob (show wOb 175 = 12 + 1 from by decide +kernel))
  refine vx_calli (vx_runV (As := [.int (Int32.ofInt (sc xs (i + 1)))]) (rest := []) ⟨hx, hb, hml, hown, hts⟩ hM (cwV 1 hts (wsV_good wL_226 wL_227 wL_228 wL_3 wL_229) rfl rfl rfl (by decide +kernel) ⟨Nat.le_of_ble_eq_true rfl, Nat.le_of_ble_eq_true rfl⟩) ⟨wPic_blind, hrv, fun U hU hW9 => ⟨rfl, (by rw [hU]; exact hW.1), hW.2.1, (by rw [hU]; exact hW.2.2), hfix.warm hW9 (fun q q1 q2 => by rw [hU]; exact hS.2.1 q q1 (fun h => absurd h (Nat.not_le.mpr q1)))⟩⟩ rfl rfl hl.1 rfl (lv_room (Nat.le_of_ble_eq_true rfl)) dL_law_2051 ⟨by show cells + 2 + 0 ≤ 603072; omega, by show slots + 12 + 6 * 0 ≤ 7215210; omega⟩) hS (fun q _ h => h.1) (fun q h => h.1) (fun q _ h => h.1) (fun E ce q9 u2 t2 H2 locs2 ht2 hal2 hp2 => absurd hp2.2 agr.no) (fun r2 u2 t2 H2 locs2 ht2 hal2 hp2 hB2 hz2 hfr2 hS => ?_)
  obtain ⟨y, rfl, hI, hag⟩ := hp2
  rw [ht2] at hB2
  have hO := hO.kept hfr2
  refine W.widen (k := cells + 8) (n := slots + 48) (by show cells + 2 + 0 ≤ cells + 8; omega) (by show slots + 12 + 6 * 0 ≤ slots + 48; omega) ?_
  refine lv_istore (lv' := [(6, .int (Int32.ofInt y)), (5, .int r), (4, .int (Int32.ofInt (i : Int))), (0, .ref b), (1, .ref (rho s.heap.size 149)), (2, .ref (rho s.heap.size 175)), (3, .ref (s.heap.size + 176))]) hx hb dL_law_2054 hl (by decide) rfl (fun ls hl => ?_)
  exact l_tailI C ⟨hB2, hI, hO⟩ hS (by decide) (by decide) hrel hag hl.1 (lv_at hl 5 rfl) (lv_at hl 6 rfl) (lv_at hl 1 rfl) (lv_at hl 0 rfl) dL_law_2056 dL_law_2057 dL_law_2060 dL_law_2062 dL_law_2067 dL_law_2069 dL_law_2072 dL_law_2073 dL_law_2074 dL_law_2075 dL_law_2077 dL_law_2078 dL_law_2079 dL_law_2084 (by decide) (by omega) (by omega) (fun H3 locs3 h3 hS3 => kk u2 _ H3 locs3 ls h3 hS3 (lv_sub hl [2, 3, 4, 5, 6] rfl))
set_option maxHeartbeats 4000000 in
set_option maxRecDepth 100000 in
theorem cs_31 {p : Program} {l : Launch} {e : Env} {s : State} {m : MethodId} {args : Array Value} {below : List Frame} {meth : Method} {c : Code} {H : Heap} {locs : List Loc} {cells slots : Nat} {Q : State → Prop} {ls : Array Slot} {D : va_G} {cA : Nat → ClassId} {sg : Nat → Nat} {b L i : Nat} {xs : Nat → Int32} {M : Mem} {z : Int64} (C : LC p l s m args c sg cA D b L xs) (hi : i + 5 ≤ L) (hc : cells + 8 ≤ 603072) (hs : slots + 48 ≤ 7215210) (hL : LWS cA D s.heap.size M z H) (hS : va_S (Al s.heap.size) s.heap H locs) (hl : lv_has ls 9 (LV b s.heap.size i))
    (kk : ∀ (M1 : Mem) (z1 : Int64) (H1 : Heap) (locs1 : List Loc) (ls1 : Array Slot), LWS cA D s.heap.size M1 z1 H1 → va_S (Al s.heap.size) s.heap H1 locs1 → lv_has ls1 9 (LV b s.heap.size i) → W p l e room_1 s m args below meth c H1 locs1 (cells + 8) (slots + 48) Q (F0 m 2729 ls1 [])) : W p l e room_1 s m args below meth c H locs cells slots Q (F0 m 2087 ls []) := by
  obtain ⟨htr, hx, hb, hml, hown, hts, hX, hbl, hfix, hnc, hLL⟩ := id C
  obtain ⟨hW, hI, hO⟩ := hL
  refine lv_aload_n hx hb dL_law_2087 rfl (lv_at hl 2 rfl) ?_
  refine l_arg C hS 1 (lv_at hl 1 rfl) (lv_at hl 0 rfl) hi (by decide) dL_law_2088 dL_law_2089 dL_law_2091 dL_law_2092 dL_law_2093 ?_
  refine l_arg C hS 2 (lv_at hl 1 rfl) (lv_at hl 0 rfl) hi (by decide) dL_law_2094 dL_law_2095 dL_law_2097 dL_law_2098 dL_law_2099 ?_
  refine lv_aload_n hx hb dL_law_2100 rfl (lv_at hl 4 rfl) ?_
  have hca := (h_closed (sc_r xs (i + 1)) (sc_r xs (i + 2))) M hI
  refine va_calli (vx_runSW (As := [.ref (rho s.heap.size 149), .int (Int32.ofInt (sc xs (i + 1))), .int (Int32.ofInt (sc xs (i + 2))), .ref (s.heap.size + 176)]) (rest := []) ⟨hx, hb, hml, hown, hts⟩ (hp_closed (sg := sg) (cA := cA) (D := D) (sz0 := s.heap.size) (z := z) htr hca (fun e9 M9 q9 => agr_es q9)) (vx_cwSW 4 hts (wsH_good wL_230 wL_231 wL_7 wL_232) rfl rfl rfl (by decide +kernel) ⟨Nat.le_of_ble_eq_true rfl, Nat.le_of_ble_eq_true rfl⟩) ⟨lPre_blind, fun U hU hW9 => ⟨rfl, ⟨(by rw [hU]; exact hW.1), hW.2.1, (by rw [hU]; exact hW.2.2), hfix.warm hW9 (fun q q1 q2 => by rw [hU]; exact hS.2.1 q q1 (fun h => absurd h (Nat.not_le.mpr q1)))⟩, (by rw [hU]; exact hO), hnc.moved hW9.alike⟩⟩ rfl rfl hl.1 rfl (lv_room (Nat.le_of_ble_eq_true rfl)) dL_law_2101 ⟨by show cells + 2 ≤ 603072; omega, by show slots + 12 ≤ 7215210; omega⟩) hS (fun q _ h => h) (fun q h => h) (fun r u t H1 locs1 ht hal hp hB hz1 hfr hS => ?_)
  obtain ⟨r0, hq, hrel⟩ := hp.rel
  obtain ⟨hW, hO⟩ := hB
  rw [ht] at hW hO
  refine lv_istore (lv' := [(5, .int r), (4, .int (Int32.ofInt (i : Int))), (0, .ref b), (1, .ref (rho s.heap.size 149)), (2, .ref (rho s.heap.size 175)), (3, .ref (s.heap.size + 176))]) hx hb dL_law_2104 hl (by decide) rfl (fun ls hl => ?_)
  refine lv_aload_n hx hb dL_law_2106 rfl (lv_at hl 4 rfl) ?_
  refine l_arg C hS 1 (lv_at hl 2 rfl) (lv_at hl 1 rfl) hi (by decide) dL_law_2107 dL_law_2108 dL_law_2110 dL_law_2111 dL_law_2112 ?_
  refine l_arg C hS 2 (lv_at hl 2 rfl) (lv_at hl 1 rfl) hi (by decide) dL_law_2113 dL_law_2114 dL_law_2116 dL_law_2117 dL_law_2118 ?_
  have hM := snd (ρ := rho s.heap.size) (sg := sg) (cA := cA) (D := D) (sz0 := s.heap.size) htr 10 cM_closed _ _ _ hq nM_closed rfl
  have hrv := va_recv hfix.1 hW.1 (gCl_at 12 (by decide)) (wWs_ob (show wOb 175 = 12 + 1 from by decide +kernel))
  refine vx_calli (vx_runV (As := [.int (Int32.ofInt (sc xs (i + 1))), .int (Int32.ofInt (sc xs (i + 2)))]) (rest := []) ⟨hx, hb, hml, hown, hts⟩ hM (cwV 2 hts (wsV_good wL_233 wL_234 wL_235 wL_3 wL_236) rfl rfl rfl (by decide +kernel) ⟨Nat.le_of_ble_eq_true rfl, Nat.le_of_ble_eq_true rfl⟩) ⟨wPic_blind, hrv, fun U hU hW9 => ⟨rfl, (by rw [hU]; exact hW.1), hW.2.1, (by rw [hU]; exact hW.2.2), hfix.warm hW9 (fun q q1 q2 => by rw [hU]; exact hS.2.1 q q1 (fun h => absurd h (Nat.not_le.mpr q1)))⟩⟩ rfl rfl hl.1 rfl (lv_room (Nat.le_of_ble_eq_true rfl)) dL_law_2119 ⟨by show cells + 2 + 0 ≤ 603072; omega, by show slots + 12 + 6 * 0 ≤ 7215210; omega⟩) hS (fun q _ h => h.1) (fun q h => h.1) (fun q _ h => h.1) (fun E ce q9 u2 t2 H2 locs2 ht2 hal2 hp2 => absurd hp2.2 agr.no) (fun r2 u2 t2 H2 locs2 ht2 hal2 hp2 hB2 hz2 hfr2 hS => ?_)
  obtain ⟨y, rfl, hI, hag⟩ := hp2
  rw [ht2] at hB2
  have hO := hO.kept hfr2
  refine W.widen (k := cells + 8) (n := slots + 48) (by show cells + 2 + 0 ≤ cells + 8; omega) (by show slots + 12 + 6 * 0 ≤ slots + 48; omega) ?_
  refine lv_istore (lv' := [(6, .int (Int32.ofInt y)), (5, .int r), (4, .int (Int32.ofInt (i : Int))), (0, .ref b), (1, .ref (rho s.heap.size 149)), (2, .ref (rho s.heap.size 175)), (3, .ref (s.heap.size + 176))]) hx hb dL_law_2122 hl (by decide) rfl (fun ls hl => ?_)
  exact l_tailI C ⟨hB2, hI, hO⟩ hS (by decide) (by decide) hrel hag hl.1 (lv_at hl 5 rfl) (lv_at hl 6 rfl) (lv_at hl 1 rfl) (lv_at hl 0 rfl) dL_law_2124 dL_law_2125 dL_law_2128 dL_law_2130 dL_law_2135 dL_law_2137 dL_law_2140 dL_law_2141 dL_law_2142 dL_law_2143 dL_law_2145 dL_law_2146 dL_law_2147 dL_law_2152 (by decide) (by omega) (by omega) (fun H3 locs3 h3 hS3 => kk u2 _ H3 locs3 ls h3 hS3 (lv_sub hl [2, 3, 4, 5, 6] rfl))
set_option maxHeartbeats 4000000 in
set_option maxRecDepth 100000 in
theorem cs_32 {p : Program} {l : Launch} {e : Env} {s : State} {m : MethodId} {args : Array Value} {below : List Frame} {meth : Method} {c : Code} {H : Heap} {locs : List Loc} {cells slots : Nat} {Q : State → Prop} {ls : Array Slot} {D : va_G} {cA : Nat → ClassId} {sg : Nat → Nat} {b L i : Nat} {xs : Nat → Int32} {M : Mem} {z : Int64} (C : LC p l s m args c sg cA D b L xs) (hi : i + 5 ≤ L) (hc : cells + 8 ≤ 603072) (hs : slots + 48 ≤ 7215210) (hL : LWS cA D s.heap.size M z H) (hS : va_S (Al s.heap.size) s.heap H locs) (hl : lv_has ls 9 (LV b s.heap.size i))
    (kk : ∀ (M1 : Mem) (z1 : Int64) (H1 : Heap) (locs1 : List Loc) (ls1 : Array Slot), LWS cA D s.heap.size M1 z1 H1 → va_S (Al s.heap.size) s.heap H1 locs1 → lv_has ls1 9 (LV b s.heap.size i) → W p l e room_1 s m args below meth c H1 locs1 (cells + 8) (slots + 48) Q (F0 m 2729 ls1 [])) : W p l e room_1 s m args below meth c H locs cells slots Q (F0 m 2155 ls []) := by
  obtain ⟨htr, hx, hb, hml, hown, hts, hX, hbl, hfix, hnc, hLL⟩ := id C
  obtain ⟨hW, hI, hO⟩ := hL
  refine lv_aload_n hx hb dL_law_2155 rfl (lv_at hl 2 rfl) ?_
  refine l_arg C hS 1 (lv_at hl 1 rfl) (lv_at hl 0 rfl) hi (by decide) dL_law_2156 dL_law_2157 dL_law_2159 dL_law_2160 dL_law_2161 ?_
  refine l_arg C hS 2 (lv_at hl 1 rfl) (lv_at hl 0 rfl) hi (by decide) dL_law_2162 dL_law_2163 dL_law_2165 dL_law_2166 dL_law_2167 ?_
  refine l_arg C hS 3 (lv_at hl 1 rfl) (lv_at hl 0 rfl) hi (by decide) dL_law_2168 dL_law_2169 dL_law_2171 dL_law_2172 dL_law_2173 ?_
  refine lv_aload_n hx hb dL_law_2174 rfl (lv_at hl 4 rfl) ?_
  have hca := (h_envelope (sc_r xs (i + 1)) (sc_r xs (i + 2)) (sc_r xs (i + 3))) M hI
  refine va_calli (vx_runSW (As := [.ref (rho s.heap.size 149), .int (Int32.ofInt (sc xs (i + 1))), .int (Int32.ofInt (sc xs (i + 2))), .int (Int32.ofInt (sc xs (i + 3))), .ref (s.heap.size + 176)]) (rest := []) ⟨hx, hb, hml, hown, hts⟩ (hp_envelope (sg := sg) (cA := cA) (D := D) (sz0 := s.heap.size) (z := z) htr hca (fun e9 M9 q9 => agr_es q9)) (vx_cwSW 5 hts (wsH_good wL_237 wL_238 wL_7 wL_239) rfl rfl rfl (by decide +kernel) ⟨Nat.le_of_ble_eq_true rfl, Nat.le_of_ble_eq_true rfl⟩) ⟨lPre_blind, fun U hU hW9 => ⟨rfl, ⟨(by rw [hU]; exact hW.1), hW.2.1, (by rw [hU]; exact hW.2.2), hfix.warm hW9 (fun q q1 q2 => by rw [hU]; exact hS.2.1 q q1 (fun h => absurd h (Nat.not_le.mpr q1)))⟩, (by rw [hU]; exact hO), hnc.moved hW9.alike⟩⟩ rfl rfl hl.1 rfl (lv_room (Nat.le_of_ble_eq_true rfl)) dL_law_2175 ⟨by show cells + 1 ≤ 603072; omega, by show slots + 6 ≤ 7215210; omega⟩) hS (fun q _ h => h) (fun q h => h) (fun r u t H1 locs1 ht hal hp hB hz1 hfr hS => ?_)
  obtain ⟨r0, hq, hrel⟩ := hp.rel
  obtain ⟨hW, hO⟩ := hB
  rw [ht] at hW hO
  refine lv_istore (lv' := [(5, .int r), (4, .int (Int32.ofInt (i : Int))), (0, .ref b), (1, .ref (rho s.heap.size 149)), (2, .ref (rho s.heap.size 175)), (3, .ref (s.heap.size + 176))]) hx hb dL_law_2178 hl (by decide) rfl (fun ls hl => ?_)
  refine lv_aload_n hx hb dL_law_2180 rfl (lv_at hl 4 rfl) ?_
  refine l_arg C hS 1 (lv_at hl 2 rfl) (lv_at hl 1 rfl) hi (by decide) dL_law_2181 dL_law_2182 dL_law_2184 dL_law_2185 dL_law_2186 ?_
  refine l_arg C hS 2 (lv_at hl 2 rfl) (lv_at hl 1 rfl) hi (by decide) dL_law_2187 dL_law_2188 dL_law_2190 dL_law_2191 dL_law_2192 ?_
  refine l_arg C hS 3 (lv_at hl 2 rfl) (lv_at hl 1 rfl) hi (by decide) dL_law_2193 dL_law_2194 dL_law_2196 dL_law_2197 dL_law_2198 ?_
  have hM := snd (ρ := rho s.heap.size) (sg := sg) (cA := cA) (D := D) (sz0 := s.heap.size) htr 10 cM_envelope _ _ _ hq nM_envelope rfl
  have hrv := va_recv hfix.1 hW.1 (gCl_at 12 (by decide)) (wWs_ob (show wOb 175 = 12 + 1 from by decide +kernel))
  refine vx_calli (vx_runV (As := [.int (Int32.ofInt (sc xs (i + 1))), .int (Int32.ofInt (sc xs (i + 2))), .int (Int32.ofInt (sc xs (i + 3)))]) (rest := []) ⟨hx, hb, hml, hown, hts⟩ hM (cwV 3 hts (wsV_good wL_240 wL_241 wL_242 wL_3 wL_243) rfl rfl rfl (by decide +kernel) ⟨Nat.le_of_ble_eq_true rfl, Nat.le_of_ble_eq_true rfl⟩) ⟨wPic_blind, hrv, fun U hU hW9 => ⟨rfl, (by rw [hU]; exact hW.1), hW.2.1, (by rw [hU]; exact hW.2.2), hfix.warm hW9 (fun q q1 q2 => by rw [hU]; exact hS.2.1 q q1 (fun h => absurd h (Nat.not_le.mpr q1)))⟩⟩ rfl rfl hl.1 rfl (lv_room (Nat.le_of_ble_eq_true rfl)) dL_law_2199 ⟨by show cells + 1 + 0 ≤ 603072; omega, by show slots + 6 + 6 * 0 ≤ 7215210; omega⟩) hS (fun q _ h => h.1) (fun q h => h.1) (fun q _ h => h.1) (fun E ce q9 u2 t2 H2 locs2 ht2 hal2 hp2 => absurd hp2.2 agr.no) (fun r2 u2 t2 H2 locs2 ht2 hal2 hp2 hB2 hz2 hfr2 hS => ?_)
  obtain ⟨y, rfl, hI, hag⟩ := hp2
  rw [ht2] at hB2
  have hO := hO.kept hfr2
  refine W.widen (k := cells + 8) (n := slots + 48) (by show cells + 1 + 0 ≤ cells + 8; omega) (by show slots + 6 + 6 * 0 ≤ slots + 48; omega) ?_
  refine lv_istore (lv' := [(6, .int (Int32.ofInt y)), (5, .int r), (4, .int (Int32.ofInt (i : Int))), (0, .ref b), (1, .ref (rho s.heap.size 149)), (2, .ref (rho s.heap.size 175)), (3, .ref (s.heap.size + 176))]) hx hb dL_law_2202 hl (by decide) rfl (fun ls hl => ?_)
  exact l_tailI C ⟨hB2, hI, hO⟩ hS (by decide) (by decide) hrel hag hl.1 (lv_at hl 5 rfl) (lv_at hl 6 rfl) (lv_at hl 1 rfl) (lv_at hl 0 rfl) dL_law_2204 dL_law_2205 dL_law_2208 dL_law_2210 dL_law_2215 dL_law_2217 dL_law_2220 dL_law_2221 dL_law_2222 dL_law_2223 dL_law_2225 dL_law_2226 dL_law_2227 dL_law_2232 (by decide) (by omega) (by omega) (fun H3 locs3 h3 hS3 => kk u2 _ H3 locs3 ls h3 hS3 (lv_sub hl [2, 3, 4, 5, 6] rfl))
set_option maxHeartbeats 4000000 in
set_option maxRecDepth 100000 in
theorem cs_33 {p : Program} {l : Launch} {e : Env} {s : State} {m : MethodId} {args : Array Value} {below : List Frame} {meth : Method} {c : Code} {H : Heap} {locs : List Loc} {cells slots : Nat} {Q : State → Prop} {ls : Array Slot} {D : va_G} {cA : Nat → ClassId} {sg : Nat → Nat} {b L i : Nat} {xs : Nat → Int32} {M : Mem} {z : Int64} (C : LC p l s m args c sg cA D b L xs) (hi : i + 5 ≤ L) (hc : cells + 8 ≤ 603072) (hs : slots + 48 ≤ 7215210) (hL : LWS cA D s.heap.size M z H) (hS : va_S (Al s.heap.size) s.heap H locs) (hl : lv_has ls 9 (LV b s.heap.size i))
    (kk : ∀ (M1 : Mem) (z1 : Int64) (H1 : Heap) (locs1 : List Loc) (ls1 : Array Slot), LWS cA D s.heap.size M1 z1 H1 → va_S (Al s.heap.size) s.heap H1 locs1 → lv_has ls1 9 (LV b s.heap.size i) → W p l e room_1 s m args below meth c H1 locs1 (cells + 8) (slots + 48) Q (F0 m 2729 ls1 [])) : W p l e room_1 s m args below meth c H locs cells slots Q (F0 m 2235 ls []) := by
  obtain ⟨htr, hx, hb, hml, hown, hts, hX, hbl, hfix, hnc, hLL⟩ := id C
  obtain ⟨hW, hI, hO⟩ := hL
  refine lv_aload_n hx hb dL_law_2235 rfl (lv_at hl 2 rfl) ?_
  refine l_arg C hS 1 (lv_at hl 1 rfl) (lv_at hl 0 rfl) hi (by decide) dL_law_2236 dL_law_2237 dL_law_2239 dL_law_2240 dL_law_2241 ?_
  refine l_arg C hS 2 (lv_at hl 1 rfl) (lv_at hl 0 rfl) hi (by decide) dL_law_2242 dL_law_2243 dL_law_2245 dL_law_2246 dL_law_2247 ?_
  refine l_arg C hS 3 (lv_at hl 1 rfl) (lv_at hl 0 rfl) hi (by decide) dL_law_2248 dL_law_2249 dL_law_2251 dL_law_2252 dL_law_2253 ?_
  refine lv_aload_n hx hb dL_law_2254 rfl (lv_at hl 4 rfl) ?_
  have hca := (h_server (sc_r xs (i + 1)) (sc_r xs (i + 2)) (sc_r xs (i + 3))) M hI
  refine va_calli (vx_runSW (As := [.ref (rho s.heap.size 149), .int (Int32.ofInt (sc xs (i + 1))), .int (Int32.ofInt (sc xs (i + 2))), .int (Int32.ofInt (sc xs (i + 3))), .ref (s.heap.size + 176)]) (rest := []) ⟨hx, hb, hml, hown, hts⟩ (hp_server (sg := sg) (cA := cA) (D := D) (sz0 := s.heap.size) (z := z) htr hca (fun e9 M9 q9 => agr_es q9)) (vx_cwSW 5 hts (wsH_good wL_244 wL_245 wL_7 wL_246) rfl rfl rfl (by decide +kernel) ⟨Nat.le_of_ble_eq_true rfl, Nat.le_of_ble_eq_true rfl⟩) ⟨lPre_blind, fun U hU hW9 => ⟨rfl, ⟨(by rw [hU]; exact hW.1), hW.2.1, (by rw [hU]; exact hW.2.2), hfix.warm hW9 (fun q q1 q2 => by rw [hU]; exact hS.2.1 q q1 (fun h => absurd h (Nat.not_le.mpr q1)))⟩, (by rw [hU]; exact hO), hnc.moved hW9.alike⟩⟩ rfl rfl hl.1 rfl (lv_room (Nat.le_of_ble_eq_true rfl)) dL_law_2255 ⟨by show cells + 1 ≤ 603072; omega, by show slots + 6 ≤ 7215210; omega⟩) hS (fun q _ h => h) (fun q h => h) (fun r u t H1 locs1 ht hal hp hB hz1 hfr hS => ?_)
  obtain ⟨r0, hq, hrel⟩ := hp.rel
  obtain ⟨hW, hO⟩ := hB
  rw [ht] at hW hO
  refine lv_istore (lv' := [(5, .int r), (4, .int (Int32.ofInt (i : Int))), (0, .ref b), (1, .ref (rho s.heap.size 149)), (2, .ref (rho s.heap.size 175)), (3, .ref (s.heap.size + 176))]) hx hb dL_law_2258 hl (by decide) rfl (fun ls hl => ?_)
  refine lv_aload_n hx hb dL_law_2260 rfl (lv_at hl 4 rfl) ?_
  refine l_arg C hS 1 (lv_at hl 2 rfl) (lv_at hl 1 rfl) hi (by decide) dL_law_2261 dL_law_2262 dL_law_2264 dL_law_2265 dL_law_2266 ?_
  refine l_arg C hS 2 (lv_at hl 2 rfl) (lv_at hl 1 rfl) hi (by decide) dL_law_2267 dL_law_2268 dL_law_2270 dL_law_2271 dL_law_2272 ?_
  refine l_arg C hS 3 (lv_at hl 2 rfl) (lv_at hl 1 rfl) hi (by decide) dL_law_2273 dL_law_2274 dL_law_2276 dL_law_2277 dL_law_2278 ?_
  have hM := snd (ρ := rho s.heap.size) (sg := sg) (cA := cA) (D := D) (sz0 := s.heap.size) htr 10 cM_server _ _ _ hq nM_server rfl
  have hrv := va_recv hfix.1 hW.1 (gCl_at 12 (by decide)) (wWs_ob (show wOb 175 = 12 + 1 from by decide +kernel))
  refine vx_calli (vx_runV (As := [.int (Int32.ofInt (sc xs (i + 1))), .int (Int32.ofInt (sc xs (i + 2))), .int (Int32.ofInt (sc xs (i + 3)))]) (rest := []) ⟨hx, hb, hml, hown, hts⟩ hM (cwV 3 hts (wsV_good wL_247 wL_248 wL_249 wL_3 wL_250) rfl rfl rfl (by decide +kernel) ⟨Nat.le_of_ble_eq_true rfl, Nat.le_of_ble_eq_true rfl⟩) ⟨wPic_blind, hrv, fun U hU hW9 => ⟨rfl, (by rw [hU]; exact hW.1), hW.2.1, (by rw [hU]; exact hW.2.2), hfix.warm hW9 (fun q q1 q2 => by rw [hU]; exact hS.2.1 q q1 (fun h => absurd h (Nat.not_le.mpr q1)))⟩⟩ rfl rfl hl.1 rfl (lv_room (Nat.le_of_ble_eq_true rfl)) dL_law_2279 ⟨by show cells + 1 + 0 ≤ 603072; omega, by show slots + 6 + 6 * 0 ≤ 7215210; omega⟩) hS (fun q _ h => h.1) (fun q h => h.1) (fun q _ h => h.1) (fun E ce q9 u2 t2 H2 locs2 ht2 hal2 hp2 => absurd hp2.2 agr.no) (fun r2 u2 t2 H2 locs2 ht2 hal2 hp2 hB2 hz2 hfr2 hS => ?_)
  obtain ⟨y, rfl, hI, hag⟩ := hp2
  rw [ht2] at hB2
  have hO := hO.kept hfr2
  refine W.widen (k := cells + 8) (n := slots + 48) (by show cells + 1 + 0 ≤ cells + 8; omega) (by show slots + 6 + 6 * 0 ≤ slots + 48; omega) ?_
  refine lv_istore (lv' := [(6, .int (Int32.ofInt y)), (5, .int r), (4, .int (Int32.ofInt (i : Int))), (0, .ref b), (1, .ref (rho s.heap.size 149)), (2, .ref (rho s.heap.size 175)), (3, .ref (s.heap.size + 176))]) hx hb dL_law_2282 hl (by decide) rfl (fun ls hl => ?_)
  exact l_tailI C ⟨hB2, hI, hO⟩ hS (by decide) (by decide) hrel hag hl.1 (lv_at hl 5 rfl) (lv_at hl 6 rfl) (lv_at hl 1 rfl) (lv_at hl 0 rfl) dL_law_2284 dL_law_2285 dL_law_2288 dL_law_2290 dL_law_2295 dL_law_2297 dL_law_2300 dL_law_2301 dL_law_2302 dL_law_2303 dL_law_2305 dL_law_2306 dL_law_2307 dL_law_2312 (by decide) (by omega) (by omega) (fun H3 locs3 h3 hS3 => kk u2 _ H3 locs3 ls h3 hS3 (lv_sub hl [2, 3, 4, 5, 6] rfl))
set_option maxHeartbeats 4000000 in
set_option maxRecDepth 100000 in
theorem cs_34 {p : Program} {l : Launch} {e : Env} {s : State} {m : MethodId} {args : Array Value} {below : List Frame} {meth : Method} {c : Code} {H : Heap} {locs : List Loc} {cells slots : Nat} {Q : State → Prop} {ls : Array Slot} {D : va_G} {cA : Nat → ClassId} {sg : Nat → Nat} {b L i : Nat} {xs : Nat → Int32} {M : Mem} {z : Int64} (C : LC p l s m args c sg cA D b L xs) (hi : i + 5 ≤ L) (hc : cells + 8 ≤ 603072) (hs : slots + 48 ≤ 7215210) (hL : LWS cA D s.heap.size M z H) (hS : va_S (Al s.heap.size) s.heap H locs) (hl : lv_has ls 9 (LV b s.heap.size i))
    (kk : ∀ (M1 : Mem) (z1 : Int64) (H1 : Heap) (locs1 : List Loc) (ls1 : Array Slot), LWS cA D s.heap.size M1 z1 H1 → va_S (Al s.heap.size) s.heap H1 locs1 → lv_has ls1 9 (LV b s.heap.size i) → W p l e room_1 s m args below meth c H1 locs1 (cells + 8) (slots + 48) Q (F0 m 2729 ls1 [])) : W p l e room_1 s m args below meth c H locs cells slots Q (F0 m 2315 ls []) := by
  obtain ⟨htr, hx, hb, hml, hown, hts, hX, hbl, hfix, hnc, hLL⟩ := id C
  obtain ⟨hW, hI, hO⟩ := hL
  refine lv_aload_n hx hb dL_law_2315 rfl (lv_at hl 2 rfl) ?_
  refine l_arg C hS 1 (lv_at hl 1 rfl) (lv_at hl 0 rfl) hi (by decide) dL_law_2316 dL_law_2317 dL_law_2319 dL_law_2320 dL_law_2321 ?_
  refine l_bool hx hb (sc_r xs (i + 1)) dL_law_2322 dL_law_2325 dL_law_2326 dL_law_2329 ?_
  refine lv_aload_n hx hb dL_law_2330 rfl (lv_at hl 4 rfl) ?_
  have hca := (h_bound (bI_r (sc xs (i + 1)))) M hI
  refine va_calli (vx_runSW (As := [.ref (rho s.heap.size 149), .int (Int32.ofInt (bI (sc xs (i + 1)))), .ref (s.heap.size + 176)]) (rest := []) ⟨hx, hb, hml, hown, hts⟩ (hp_bound (sg := sg) (cA := cA) (D := D) (sz0 := s.heap.size) (z := z) htr hca (fun e9 M9 q9 => agr_es q9)) (vx_cwSW 3 hts (wsH_good wL_251 wL_252 wL_7 wL_253) rfl rfl rfl (by decide +kernel) ⟨Nat.le_of_ble_eq_true rfl, Nat.le_of_ble_eq_true rfl⟩) ⟨lPre_blind, fun U hU hW9 => ⟨rfl, ⟨(by rw [hU]; exact hW.1), hW.2.1, (by rw [hU]; exact hW.2.2), hfix.warm hW9 (fun q q1 q2 => by rw [hU]; exact hS.2.1 q q1 (fun h => absurd h (Nat.not_le.mpr q1)))⟩, (by rw [hU]; exact hO), hnc.moved hW9.alike⟩⟩ rfl rfl hl.1 rfl (lv_room (Nat.le_of_ble_eq_true rfl)) dL_law_2331 ⟨by show cells + 1 ≤ 603072; omega, by show slots + 6 ≤ 7215210; omega⟩) hS (fun q _ h => h) (fun q h => h) (fun r u t H1 locs1 ht hal hp hB hz1 hfr hS => ?_)
  obtain ⟨r0, hq, hrel⟩ := hp.rel
  obtain ⟨hW, hO⟩ := hB
  rw [ht] at hW hO
  refine lv_istore (lv' := [(5, .int r), (4, .int (Int32.ofInt (i : Int))), (0, .ref b), (1, .ref (rho s.heap.size 149)), (2, .ref (rho s.heap.size 175)), (3, .ref (s.heap.size + 176))]) hx hb dL_law_2334 hl (by decide) rfl (fun ls hl => ?_)
  refine lv_aload_n hx hb dL_law_2336 rfl (lv_at hl 4 rfl) ?_
  refine l_arg C hS 1 (lv_at hl 2 rfl) (lv_at hl 1 rfl) hi (by decide) dL_law_2337 dL_law_2338 dL_law_2340 dL_law_2341 dL_law_2342 ?_
  refine l_bool hx hb (sc_r xs (i + 1)) dL_law_2343 dL_law_2346 dL_law_2347 dL_law_2350 ?_
  have hM := snd (ρ := rho s.heap.size) (sg := sg) (cA := cA) (D := D) (sz0 := s.heap.size) htr 10 cM_bound _ _ _ hq nM_bound rfl
  have hrv := va_recv hfix.1 hW.1 (gCl_at 12 (by decide)) (wWs_ob (show wOb 175 = 12 + 1 from by decide +kernel))
  refine vx_calli (vx_runV (As := [.int (Int32.ofInt (bI (sc xs (i + 1))))]) (rest := []) ⟨hx, hb, hml, hown, hts⟩ hM (cwV 1 hts (wsV_good wL_254 wL_255 wL_256 wL_3 wL_257) rfl rfl rfl (by decide +kernel) ⟨Nat.le_of_ble_eq_true rfl, Nat.le_of_ble_eq_true rfl⟩) ⟨wPic_blind, hrv, fun U hU hW9 => ⟨rfl, (by rw [hU]; exact hW.1), hW.2.1, (by rw [hU]; exact hW.2.2), hfix.warm hW9 (fun q q1 q2 => by rw [hU]; exact hS.2.1 q q1 (fun h => absurd h (Nat.not_le.mpr q1)))⟩⟩ rfl rfl hl.1 rfl (lv_room (Nat.le_of_ble_eq_true rfl)) dL_law_2351 ⟨by show cells + 1 + 0 ≤ 603072; omega, by show slots + 6 + 6 * 0 ≤ 7215210; omega⟩) hS (fun q _ h => h.1) (fun q h => h.1) (fun q _ h => h.1) (fun E ce q9 u2 t2 H2 locs2 ht2 hal2 hp2 => absurd hp2.2 agr.no) (fun r2 u2 t2 H2 locs2 ht2 hal2 hp2 hB2 hz2 hfr2 hS => ?_)
  obtain ⟨y, rfl, hI, hag⟩ := hp2
  rw [ht2] at hB2
  have hO := hO.kept hfr2
  refine W.widen (k := cells + 8) (n := slots + 48) (by show cells + 1 + 0 ≤ cells + 8; omega) (by show slots + 6 + 6 * 0 ≤ slots + 48; omega) ?_
  refine lv_istore (lv' := [(6, .int (Int32.ofInt y)), (5, .int r), (4, .int (Int32.ofInt (i : Int))), (0, .ref b), (1, .ref (rho s.heap.size 149)), (2, .ref (rho s.heap.size 175)), (3, .ref (s.heap.size + 176))]) hx hb dL_law_2354 hl (by decide) rfl (fun ls hl => ?_)
  exact l_tailI C ⟨hB2, hI, hO⟩ hS (by decide) (by decide) hrel hag hl.1 (lv_at hl 5 rfl) (lv_at hl 6 rfl) (lv_at hl 1 rfl) (lv_at hl 0 rfl) dL_law_2356 dL_law_2357 dL_law_2360 dL_law_2362 dL_law_2367 dL_law_2369 dL_law_2372 dL_law_2373 dL_law_2374 dL_law_2375 dL_law_2377 dL_law_2378 dL_law_2379 dL_law_2384 (by decide) (by omega) (by omega) (fun H3 locs3 h3 hS3 => kk u2 _ H3 locs3 ls h3 hS3 (lv_sub hl [2, 3, 4, 5, 6] rfl))
set_option maxHeartbeats 4000000 in
set_option maxRecDepth 100000 in
theorem cs_35 {p : Program} {l : Launch} {e : Env} {s : State} {m : MethodId} {args : Array Value} {below : List Frame} {meth : Method} {c : Code} {H : Heap} {locs : List Loc} {cells slots : Nat} {Q : State → Prop} {ls : Array Slot} {D : va_G} {cA : Nat → ClassId} {sg : Nat → Nat} {b L i : Nat} {xs : Nat → Int32} {M : Mem} {z : Int64} (C : LC p l s m args c sg cA D b L xs) (hi : i + 5 ≤ L) (hc : cells + 8 ≤ 603072) (hs : slots + 48 ≤ 7215210) (hL : LWS cA D s.heap.size M z H) (hS : va_S (Al s.heap.size) s.heap H locs) (hl : lv_has ls 9 (LV b s.heap.size i))
    (kk : ∀ (M1 : Mem) (z1 : Int64) (H1 : Heap) (locs1 : List Loc) (ls1 : Array Slot), LWS cA D s.heap.size M1 z1 H1 → va_S (Al s.heap.size) s.heap H1 locs1 → lv_has ls1 9 (LV b s.heap.size i) → W p l e room_1 s m args below meth c H1 locs1 (cells + 8) (slots + 48) Q (F0 m 2729 ls1 [])) : W p l e room_1 s m args below meth c H locs cells slots Q (F0 m 2387 ls []) := by
  obtain ⟨htr, hx, hb, hml, hown, hts, hX, hbl, hfix, hnc, hLL⟩ := id C
  obtain ⟨hW, hI, hO⟩ := hL
  refine lv_aload_n hx hb dL_law_2387 rfl (lv_at hl 2 rfl) ?_
  have hca := h_fits M hI
  have hM := snd (ρ := rho s.heap.size) (sg := sg) (cA := cA) (D := D) (sz0 := s.heap.size) htr 8 cQ_fits _ _ _ hca nQ_fits rfl
  have hrv := va_recv hfix.1 hW.1 (gCl_at 11 (by decide)) (wWs_ob (show wOb 149 = 11 + 1 from by decide +kernel))
  refine vx_calli (vx_runV (As := []) (rest := []) ⟨hx, hb, hml, hown, hts⟩ hM (cwV 0 hts (wsV_good wL_258 wL_259 wL_260 wL_31 wL_261) rfl rfl rfl (by decide +kernel) ⟨Nat.le_of_ble_eq_true rfl, Nat.le_of_ble_eq_true rfl⟩) ⟨wPic_blind, hrv, fun U hU hW9 => ⟨rfl, (by rw [hU]; exact hW.1), hW.2.1, (by rw [hU]; exact hW.2.2), hfix.warm hW9 (fun q q1 q2 => by rw [hU]; exact hS.2.1 q q1 (fun h => absurd h (Nat.not_le.mpr q1)))⟩⟩ rfl rfl hl.1 rfl (lv_room (Nat.le_of_ble_eq_true rfl)) dL_law_2388 ⟨by show cells + 0 ≤ 603072; omega, by show slots + 6 * 0 ≤ 7215210; omega⟩) hS (fun q _ h => h.1) (fun q h => h.1) (fun q _ h => h.1) (fun E ce q9 u2 t2 H2 locs2 ht2 hal2 hp2 => absurd (agr_es hp2) List.not_mem_nil) (fun r u t H1 locs1 ht hal hp hB hz1 hfr hS => ?_)
  obtain ⟨x, rfl, hq⟩ := hp
  rw [ht] at hB
  have hO := hO.kept hfr
  have hW := hB
  refine lv_aload_n hx hb dL_law_2391 rfl (lv_at hl 3 rfl) ?_
  have hM := snd (ρ := rho s.heap.size) (sg := sg) (cA := cA) (D := D) (sz0 := s.heap.size) htr 10 cM_fits _ _ _ hq nM_fits rfl
  have hrv := va_recv hfix.1 hW.1 (gCl_at 12 (by decide)) (wWs_ob (show wOb 175 = 12 + 1 from by decide +kernel))
  refine vx_calli (vx_runV (As := []) (rest := [.int (Int32.ofInt x)]) ⟨hx, hb, hml, hown, hts⟩ hM (cwV 0 hts (wsV_good wL_262 wL_263 wL_264 wL_3 wL_265) rfl rfl rfl (by decide +kernel) ⟨Nat.le_of_ble_eq_true rfl, Nat.le_of_ble_eq_true rfl⟩) ⟨wPic_blind, hrv, fun U hU hW9 => ⟨rfl, (by rw [hU]; exact hW.1), hW.2.1, (by rw [hU]; exact hW.2.2), hfix.warm hW9 (fun q q1 q2 => by rw [hU]; exact hS.2.1 q q1 (fun h => absurd h (Nat.not_le.mpr q1)))⟩⟩ rfl rfl hl.1 rfl (lv_room (Nat.le_of_ble_eq_true rfl)) dL_law_2392 ⟨by show cells + 0 + 0 ≤ 603072; omega, by show slots + 6 * 0 + 6 * 0 ≤ 7215210; omega⟩) hS (fun q _ h => h.1) (fun q h => h.1) (fun q _ h => h.1) (fun E ce q9 u2 t2 H2 locs2 ht2 hal2 hp2 => absurd hp2.2 agr.no) (fun r2 u2 t2 H2 locs2 ht2 hal2 hp2 hB2 hz2 hfr2 hS => ?_)
  obtain ⟨y, rfl, hI, hag⟩ := hp2
  rw [ht2] at hB2
  have hO := hO.kept hfr2
  have hy := agr_val hag
  subst hy
  refine W.widen (k := cells + 8) (n := slots + 48) (by show cells + 0 + 0 ≤ cells + 8; omega) (by show slots + 6 * 0 + 6 * 0 ≤ slots + 48; omega) ?_
  exact lv_icmp_eq (tgt := 2729) hx hb dL_law_2395 (by decide) (fun _ => kk u2 z H2 locs2 ls ⟨hB2, hI, hO⟩ hS hl) (fun h => absurd rfl h)
set_option maxHeartbeats 4000000 in
set_option maxRecDepth 100000 in
theorem cs_36 {p : Program} {l : Launch} {e : Env} {s : State} {m : MethodId} {args : Array Value} {below : List Frame} {meth : Method} {c : Code} {H : Heap} {locs : List Loc} {cells slots : Nat} {Q : State → Prop} {ls : Array Slot} {D : va_G} {cA : Nat → ClassId} {sg : Nat → Nat} {b L i : Nat} {xs : Nat → Int32} {M : Mem} {z : Int64} (C : LC p l s m args c sg cA D b L xs) (hi : i + 5 ≤ L) (hc : cells + 8 ≤ 603072) (hs : slots + 48 ≤ 7215210) (hL : LWS cA D s.heap.size M z H) (hS : va_S (Al s.heap.size) s.heap H locs) (hl : lv_has ls 9 (LV b s.heap.size i))
    (kk : ∀ (M1 : Mem) (z1 : Int64) (H1 : Heap) (locs1 : List Loc) (ls1 : Array Slot), LWS cA D s.heap.size M1 z1 H1 → va_S (Al s.heap.size) s.heap H1 locs1 → lv_has ls1 9 (LV b s.heap.size i) → W p l e room_1 s m args below meth c H1 locs1 (cells + 8) (slots + 48) Q (F0 m 2729 ls1 [])) : W p l e room_1 s m args below meth c H locs cells slots Q (F0 m 2400 ls []) := by
  obtain ⟨htr, hx, hb, hml, hown, hts, hX, hbl, hfix, hnc, hLL⟩ := id C
  obtain ⟨hW, hI, hO⟩ := hL
  refine lv_aload_n hx hb dL_law_2400 rfl (lv_at hl 2 rfl) ?_
  refine l_arg C hS 1 (lv_at hl 1 rfl) (lv_at hl 0 rfl) hi (by decide) dL_law_2401 dL_law_2402 dL_law_2404 dL_law_2405 dL_law_2406 ?_
  refine l_arg C hS 2 (lv_at hl 1 rfl) (lv_at hl 0 rfl) hi (by decide) dL_law_2407 dL_law_2408 dL_law_2410 dL_law_2411 dL_law_2412 ?_
  refine l_arg C hS 3 (lv_at hl 1 rfl) (lv_at hl 0 rfl) hi (by decide) dL_law_2413 dL_law_2414 dL_law_2416 dL_law_2417 dL_law_2418 ?_
  refine lv_aload_n hx hb dL_law_2419 rfl (lv_at hl 4 rfl) ?_
  have hca := (h_option (sc_r xs (i + 1)) (sc_r xs (i + 2)) (sc_r xs (i + 3))) M hI
  refine va_calli (vx_runSW (As := [.ref (rho s.heap.size 149), .int (Int32.ofInt (sc xs (i + 1))), .int (Int32.ofInt (sc xs (i + 2))), .int (Int32.ofInt (sc xs (i + 3))), .ref (s.heap.size + 176)]) (rest := []) ⟨hx, hb, hml, hown, hts⟩ (hp_option (sg := sg) (cA := cA) (D := D) (sz0 := s.heap.size) (z := z) htr hca (fun e9 M9 q9 => agr_es q9)) (vx_cwSW 5 hts (wsH_good wL_266 wL_267 wL_7 wL_268) rfl rfl rfl (by decide +kernel) ⟨Nat.le_of_ble_eq_true rfl, Nat.le_of_ble_eq_true rfl⟩) ⟨lPre_blind, fun U hU hW9 => ⟨rfl, ⟨(by rw [hU]; exact hW.1), hW.2.1, (by rw [hU]; exact hW.2.2), hfix.warm hW9 (fun q q1 q2 => by rw [hU]; exact hS.2.1 q q1 (fun h => absurd h (Nat.not_le.mpr q1)))⟩, (by rw [hU]; exact hO), hnc.moved hW9.alike⟩⟩ rfl rfl hl.1 rfl (lv_room (Nat.le_of_ble_eq_true rfl)) dL_law_2420 ⟨by show cells + 1 ≤ 603072; omega, by show slots + 6 ≤ 7215210; omega⟩) hS (fun q _ h => h) (fun q h => h) (fun r u t H1 locs1 ht hal hp hB hz1 hfr hS => ?_)
  obtain ⟨r0, hq, hrel⟩ := hp.rel
  obtain ⟨hW, hO⟩ := hB
  rw [ht] at hW hO
  refine lv_istore (lv' := [(5, .int r), (4, .int (Int32.ofInt (i : Int))), (0, .ref b), (1, .ref (rho s.heap.size 149)), (2, .ref (rho s.heap.size 175)), (3, .ref (s.heap.size + 176))]) hx hb dL_law_2423 hl (by decide) rfl (fun ls hl => ?_)
  refine lv_aload_n hx hb dL_law_2425 rfl (lv_at hl 4 rfl) ?_
  refine l_arg C hS 1 (lv_at hl 2 rfl) (lv_at hl 1 rfl) hi (by decide) dL_law_2426 dL_law_2427 dL_law_2429 dL_law_2430 dL_law_2431 ?_
  refine l_arg C hS 2 (lv_at hl 2 rfl) (lv_at hl 1 rfl) hi (by decide) dL_law_2432 dL_law_2433 dL_law_2435 dL_law_2436 dL_law_2437 ?_
  refine l_arg C hS 3 (lv_at hl 2 rfl) (lv_at hl 1 rfl) hi (by decide) dL_law_2438 dL_law_2439 dL_law_2441 dL_law_2442 dL_law_2443 ?_
  have hM := snd (ρ := rho s.heap.size) (sg := sg) (cA := cA) (D := D) (sz0 := s.heap.size) htr 10 cM_option _ _ _ hq nM_option rfl
  have hrv := va_recv hfix.1 hW.1 (gCl_at 12 (by decide)) (wWs_ob (show wOb 175 = 12 + 1 from by decide +kernel))
  refine vx_calli (vx_runV (As := [.int (Int32.ofInt (sc xs (i + 1))), .int (Int32.ofInt (sc xs (i + 2))), .int (Int32.ofInt (sc xs (i + 3)))]) (rest := []) ⟨hx, hb, hml, hown, hts⟩ hM (cwV 3 hts (wsV_good wL_269 wL_270 wL_271 wL_3 wL_272) rfl rfl rfl (by decide +kernel) ⟨Nat.le_of_ble_eq_true rfl, Nat.le_of_ble_eq_true rfl⟩) ⟨wPic_blind, hrv, fun U hU hW9 => ⟨rfl, (by rw [hU]; exact hW.1), hW.2.1, (by rw [hU]; exact hW.2.2), hfix.warm hW9 (fun q q1 q2 => by rw [hU]; exact hS.2.1 q q1 (fun h => absurd h (Nat.not_le.mpr q1)))⟩⟩ rfl rfl hl.1 rfl (lv_room (Nat.le_of_ble_eq_true rfl)) dL_law_2444 ⟨by show cells + 1 + 0 ≤ 603072; omega, by show slots + 6 + 6 * 0 ≤ 7215210; omega⟩) hS (fun q _ h => h.1) (fun q h => h.1) (fun q _ h => h.1) (fun E ce q9 u2 t2 H2 locs2 ht2 hal2 hp2 => absurd hp2.2 agr.no) (fun r2 u2 t2 H2 locs2 ht2 hal2 hp2 hB2 hz2 hfr2 hS => ?_)
  obtain ⟨y, rfl, hI, hag⟩ := hp2
  rw [ht2] at hB2
  have hO := hO.kept hfr2
  refine W.widen (k := cells + 8) (n := slots + 48) (by show cells + 1 + 0 ≤ cells + 8; omega) (by show slots + 6 + 6 * 0 ≤ slots + 48; omega) ?_
  refine lv_istore (lv' := [(6, .int (Int32.ofInt y)), (5, .int r), (4, .int (Int32.ofInt (i : Int))), (0, .ref b), (1, .ref (rho s.heap.size 149)), (2, .ref (rho s.heap.size 175)), (3, .ref (s.heap.size + 176))]) hx hb dL_law_2447 hl (by decide) rfl (fun ls hl => ?_)
  exact l_tailI C ⟨hB2, hI, hO⟩ hS (by decide) (by decide) hrel hag hl.1 (lv_at hl 5 rfl) (lv_at hl 6 rfl) (lv_at hl 1 rfl) (lv_at hl 0 rfl) dL_law_2449 dL_law_2450 dL_law_2453 dL_law_2455 dL_law_2460 dL_law_2462 dL_law_2465 dL_law_2466 dL_law_2467 dL_law_2468 dL_law_2470 dL_law_2471 dL_law_2472 dL_law_2477 (by decide) (by omega) (by omega) (fun H3 locs3 h3 hS3 => kk u2 _ H3 locs3 ls h3 hS3 (lv_sub hl [2, 3, 4, 5, 6] rfl))
set_option maxHeartbeats 4000000 in
set_option maxRecDepth 100000 in
theorem cs_37 {p : Program} {l : Launch} {e : Env} {s : State} {m : MethodId} {args : Array Value} {below : List Frame} {meth : Method} {c : Code} {H : Heap} {locs : List Loc} {cells slots : Nat} {Q : State → Prop} {ls : Array Slot} {D : va_G} {cA : Nat → ClassId} {sg : Nat → Nat} {b L i : Nat} {xs : Nat → Int32} {M : Mem} {z : Int64} (C : LC p l s m args c sg cA D b L xs) (hi : i + 5 ≤ L) (hc : cells + 8 ≤ 603072) (hs : slots + 48 ≤ 7215210) (hL : LWS cA D s.heap.size M z H) (hS : va_S (Al s.heap.size) s.heap H locs) (hl : lv_has ls 9 (LV b s.heap.size i))
    (kk : ∀ (M1 : Mem) (z1 : Int64) (H1 : Heap) (locs1 : List Loc) (ls1 : Array Slot), LWS cA D s.heap.size M1 z1 H1 → va_S (Al s.heap.size) s.heap H1 locs1 → lv_has ls1 9 (LV b s.heap.size i) → W p l e room_1 s m args below meth c H1 locs1 (cells + 8) (slots + 48) Q (F0 m 2729 ls1 [])) : W p l e room_1 s m args below meth c H locs cells slots Q (F0 m 2480 ls []) := by
  obtain ⟨htr, hx, hb, hml, hown, hts, hX, hbl, hfix, hnc, hLL⟩ := id C
  obtain ⟨hW, hI, hO⟩ := hL
  refine lv_aload_n hx hb dL_law_2480 rfl (lv_at hl 2 rfl) ?_
  refine l_arg C hS 1 (lv_at hl 1 rfl) (lv_at hl 0 rfl) hi (by decide) dL_law_2481 dL_law_2482 dL_law_2484 dL_law_2485 dL_law_2486 ?_
  refine l_arg C hS 2 (lv_at hl 1 rfl) (lv_at hl 0 rfl) hi (by decide) dL_law_2487 dL_law_2488 dL_law_2490 dL_law_2491 dL_law_2492 ?_
  refine l_arg C hS 3 (lv_at hl 1 rfl) (lv_at hl 0 rfl) hi (by decide) dL_law_2493 dL_law_2494 dL_law_2496 dL_law_2497 dL_law_2498 ?_
  refine l_bool hx hb (sc_r xs (i + 3)) dL_law_2499 dL_law_2502 dL_law_2503 dL_law_2506 ?_
  refine lv_aload_n hx hb dL_law_2507 rfl (lv_at hl 4 rfl) ?_
  have hca := (h_split (sc_r xs (i + 1)) (sc_r xs (i + 2)) (bI_r (sc xs (i + 3)))) M hI
  refine va_calli (vx_runSW (As := [.ref (rho s.heap.size 149), .int (Int32.ofInt (sc xs (i + 1))), .int (Int32.ofInt (sc xs (i + 2))), .int (Int32.ofInt (bI (sc xs (i + 3)))), .ref (s.heap.size + 176)]) (rest := []) ⟨hx, hb, hml, hown, hts⟩ (hp_split (sg := sg) (cA := cA) (D := D) (sz0 := s.heap.size) (z := z) htr hca (fun e9 M9 q9 => agr_es q9)) (vx_cwSW 5 hts (wsH_good wL_273 wL_274 wL_7 wL_275) rfl rfl rfl (by decide +kernel) ⟨Nat.le_of_ble_eq_true rfl, Nat.le_of_ble_eq_true rfl⟩) ⟨lPre_blind, fun U hU hW9 => ⟨rfl, ⟨(by rw [hU]; exact hW.1), hW.2.1, (by rw [hU]; exact hW.2.2), hfix.warm hW9 (fun q q1 q2 => by rw [hU]; exact hS.2.1 q q1 (fun h => absurd h (Nat.not_le.mpr q1)))⟩, (by rw [hU]; exact hO), hnc.moved hW9.alike⟩⟩ rfl rfl hl.1 rfl (lv_room (Nat.le_of_ble_eq_true rfl)) dL_law_2508 ⟨by show cells + 1 ≤ 603072; omega, by show slots + 6 ≤ 7215210; omega⟩) hS (fun q _ h => h) (fun q h => h) (fun r u t H1 locs1 ht hal hp hB hz1 hfr hS => ?_)
  obtain ⟨r0, hq, hrel⟩ := hp.rel
  obtain ⟨hW, hO⟩ := hB
  rw [ht] at hW hO
  refine lv_istore (lv' := [(5, .int r), (4, .int (Int32.ofInt (i : Int))), (0, .ref b), (1, .ref (rho s.heap.size 149)), (2, .ref (rho s.heap.size 175)), (3, .ref (s.heap.size + 176))]) hx hb dL_law_2511 hl (by decide) rfl (fun ls hl => ?_)
  refine lv_aload_n hx hb dL_law_2513 rfl (lv_at hl 4 rfl) ?_
  refine l_arg C hS 1 (lv_at hl 2 rfl) (lv_at hl 1 rfl) hi (by decide) dL_law_2514 dL_law_2515 dL_law_2517 dL_law_2518 dL_law_2519 ?_
  refine l_arg C hS 2 (lv_at hl 2 rfl) (lv_at hl 1 rfl) hi (by decide) dL_law_2520 dL_law_2521 dL_law_2523 dL_law_2524 dL_law_2525 ?_
  refine l_arg C hS 3 (lv_at hl 2 rfl) (lv_at hl 1 rfl) hi (by decide) dL_law_2526 dL_law_2527 dL_law_2529 dL_law_2530 dL_law_2531 ?_
  refine l_bool hx hb (sc_r xs (i + 3)) dL_law_2532 dL_law_2535 dL_law_2536 dL_law_2539 ?_
  have hM := snd (ρ := rho s.heap.size) (sg := sg) (cA := cA) (D := D) (sz0 := s.heap.size) htr 10 cM_split _ _ _ hq nM_split rfl
  have hrv := va_recv hfix.1 hW.1 (gCl_at 12 (by decide)) (wWs_ob (show wOb 175 = 12 + 1 from by decide +kernel))
  refine vx_calli (vx_runV (As := [.int (Int32.ofInt (sc xs (i + 1))), .int (Int32.ofInt (sc xs (i + 2))), .int (Int32.ofInt (bI (sc xs (i + 3))))]) (rest := []) ⟨hx, hb, hml, hown, hts⟩ hM (cwV 3 hts (wsV_good wL_276 wL_277 wL_278 wL_3 wL_279) rfl rfl rfl (by decide +kernel) ⟨Nat.le_of_ble_eq_true rfl, Nat.le_of_ble_eq_true rfl⟩) ⟨wPic_blind, hrv, fun U hU hW9 => ⟨rfl, (by rw [hU]; exact hW.1), hW.2.1, (by rw [hU]; exact hW.2.2), hfix.warm hW9 (fun q q1 q2 => by rw [hU]; exact hS.2.1 q q1 (fun h => absurd h (Nat.not_le.mpr q1)))⟩⟩ rfl rfl hl.1 rfl (lv_room (Nat.le_of_ble_eq_true rfl)) dL_law_2540 ⟨by show cells + 1 + 0 ≤ 603072; omega, by show slots + 6 + 6 * 0 ≤ 7215210; omega⟩) hS (fun q _ h => h.1) (fun q h => h.1) (fun q _ h => h.1) (fun E ce q9 u2 t2 H2 locs2 ht2 hal2 hp2 => absurd hp2.2 agr.no) (fun r2 u2 t2 H2 locs2 ht2 hal2 hp2 hB2 hz2 hfr2 hS => ?_)
  obtain ⟨y, rfl, hI, hag⟩ := hp2
  rw [ht2] at hB2
  have hO := hO.kept hfr2
  refine W.widen (k := cells + 8) (n := slots + 48) (by show cells + 1 + 0 ≤ cells + 8; omega) (by show slots + 6 + 6 * 0 ≤ slots + 48; omega) ?_
  refine lv_istore (lv' := [(6, .int (Int32.ofInt y)), (5, .int r), (4, .int (Int32.ofInt (i : Int))), (0, .ref b), (1, .ref (rho s.heap.size 149)), (2, .ref (rho s.heap.size 175)), (3, .ref (s.heap.size + 176))]) hx hb dL_law_2543 hl (by decide) rfl (fun ls hl => ?_)
  exact l_tailI C ⟨hB2, hI, hO⟩ hS (by decide) (by decide) hrel hag hl.1 (lv_at hl 5 rfl) (lv_at hl 6 rfl) (lv_at hl 1 rfl) (lv_at hl 0 rfl) dL_law_2545 dL_law_2546 dL_law_2549 dL_law_2551 dL_law_2556 dL_law_2558 dL_law_2561 dL_law_2562 dL_law_2563 dL_law_2564 dL_law_2566 dL_law_2567 dL_law_2568 dL_law_2573 (by decide) (by omega) (by omega) (fun H3 locs3 h3 hS3 => kk u2 _ H3 locs3 ls h3 hS3 (lv_sub hl [2, 3, 4, 5, 6] rfl))
set_option maxHeartbeats 4000000 in
set_option maxRecDepth 100000 in
theorem cs_38 {p : Program} {l : Launch} {e : Env} {s : State} {m : MethodId} {args : Array Value} {below : List Frame} {meth : Method} {c : Code} {H : Heap} {locs : List Loc} {cells slots : Nat} {Q : State → Prop} {ls : Array Slot} {D : va_G} {cA : Nat → ClassId} {sg : Nat → Nat} {b L i : Nat} {xs : Nat → Int32} {M : Mem} {z : Int64} (C : LC p l s m args c sg cA D b L xs) (hi : i + 5 ≤ L) (hc : cells + 8 ≤ 603072) (hs : slots + 48 ≤ 7215210) (hL : LWS cA D s.heap.size M z H) (hS : va_S (Al s.heap.size) s.heap H locs) (hl : lv_has ls 9 (LV b s.heap.size i))
    (kk : ∀ (M1 : Mem) (z1 : Int64) (H1 : Heap) (locs1 : List Loc) (ls1 : Array Slot), LWS cA D s.heap.size M1 z1 H1 → va_S (Al s.heap.size) s.heap H1 locs1 → lv_has ls1 9 (LV b s.heap.size i) → W p l e room_1 s m args below meth c H1 locs1 (cells + 8) (slots + 48) Q (F0 m 2729 ls1 [])) : W p l e room_1 s m args below meth c H locs cells slots Q (F0 m 2576 ls []) := by
  obtain ⟨htr, hx, hb, hml, hown, hts, hX, hbl, hfix, hnc, hLL⟩ := id C
  obtain ⟨hW, hI, hO⟩ := hL
  refine lv_aload_n hx hb dL_law_2576 rfl (lv_at hl 2 rfl) ?_
  refine l_arg C hS 1 (lv_at hl 1 rfl) (lv_at hl 0 rfl) hi (by decide) dL_law_2577 dL_law_2578 dL_law_2580 dL_law_2581 dL_law_2582 ?_
  refine lv_aload_n hx hb dL_law_2583 rfl (lv_at hl 4 rfl) ?_
  have hca := (h_price (sc_r xs (i + 1))) M hI
  refine va_calli (vx_runSW (As := [.ref (rho s.heap.size 149), .int (Int32.ofInt (sc xs (i + 1))), .ref (s.heap.size + 176)]) (rest := []) ⟨hx, hb, hml, hown, hts⟩ (hp_price (sg := sg) (cA := cA) (D := D) (sz0 := s.heap.size) (z := z) htr hca (fun e9 M9 q9 => agr_es q9)) (vx_cwSW 3 hts (wsH_good wL_280 wL_281 wL_7 wL_282) rfl rfl rfl (by decide +kernel) ⟨Nat.le_of_ble_eq_true rfl, Nat.le_of_ble_eq_true rfl⟩) ⟨lPre_blind, fun U hU hW9 => ⟨rfl, ⟨(by rw [hU]; exact hW.1), hW.2.1, (by rw [hU]; exact hW.2.2), hfix.warm hW9 (fun q q1 q2 => by rw [hU]; exact hS.2.1 q q1 (fun h => absurd h (Nat.not_le.mpr q1)))⟩, (by rw [hU]; exact hO), hnc.moved hW9.alike⟩⟩ rfl rfl hl.1 rfl (lv_room (Nat.le_of_ble_eq_true rfl)) dL_law_2584 ⟨by show cells + 1 ≤ 603072; omega, by show slots + 6 ≤ 7215210; omega⟩) hS (fun q _ h => h) (fun q h => h) (fun r u t H1 locs1 ht hal hp hB hz1 hfr hS => ?_)
  obtain ⟨r0, hq, hrel⟩ := hp.rel
  obtain ⟨hW, hO⟩ := hB
  rw [ht] at hW hO
  refine lv_istore (lv' := [(5, .int r), (4, .int (Int32.ofInt (i : Int))), (0, .ref b), (1, .ref (rho s.heap.size 149)), (2, .ref (rho s.heap.size 175)), (3, .ref (s.heap.size + 176))]) hx hb dL_law_2587 hl (by decide) rfl (fun ls hl => ?_)
  refine lv_aload_n hx hb dL_law_2589 rfl (lv_at hl 4 rfl) ?_
  refine l_arg C hS 1 (lv_at hl 2 rfl) (lv_at hl 1 rfl) hi (by decide) dL_law_2590 dL_law_2591 dL_law_2593 dL_law_2594 dL_law_2595 ?_
  have hM := snd (ρ := rho s.heap.size) (sg := sg) (cA := cA) (D := D) (sz0 := s.heap.size) htr 10 cM_price _ _ _ hq nM_price rfl
  have hrv := va_recv hfix.1 hW.1 (gCl_at 12 (by decide)) (wWs_ob (show wOb 175 = 12 + 1 from by decide +kernel))
  refine vx_calli (vx_runV (As := [.int (Int32.ofInt (sc xs (i + 1)))]) (rest := []) ⟨hx, hb, hml, hown, hts⟩ hM (cwV 1 hts (wsV_good wL_283 wL_284 wL_285 wL_3 wL_286) rfl rfl rfl (by decide +kernel) ⟨Nat.le_of_ble_eq_true rfl, Nat.le_of_ble_eq_true rfl⟩) ⟨wPic_blind, hrv, fun U hU hW9 => ⟨rfl, (by rw [hU]; exact hW.1), hW.2.1, (by rw [hU]; exact hW.2.2), hfix.warm hW9 (fun q q1 q2 => by rw [hU]; exact hS.2.1 q q1 (fun h => absurd h (Nat.not_le.mpr q1)))⟩⟩ rfl rfl hl.1 rfl (lv_room (Nat.le_of_ble_eq_true rfl)) dL_law_2596 ⟨by show cells + 1 + 0 ≤ 603072; omega, by show slots + 6 + 6 * 0 ≤ 7215210; omega⟩) hS (fun q _ h => h.1) (fun q h => h.1) (fun q _ h => h.1) (fun E ce q9 u2 t2 H2 locs2 ht2 hal2 hp2 => absurd hp2.2 agr.no) (fun r2 u2 t2 H2 locs2 ht2 hal2 hp2 hB2 hz2 hfr2 hS => ?_)
  obtain ⟨y, rfl, hI, hag⟩ := hp2
  rw [ht2] at hB2
  have hO := hO.kept hfr2
  refine W.widen (k := cells + 8) (n := slots + 48) (by show cells + 1 + 0 ≤ cells + 8; omega) (by show slots + 6 + 6 * 0 ≤ slots + 48; omega) ?_
  refine lv_istore (lv' := [(6, .int (Int32.ofInt y)), (5, .int r), (4, .int (Int32.ofInt (i : Int))), (0, .ref b), (1, .ref (rho s.heap.size 149)), (2, .ref (rho s.heap.size 175)), (3, .ref (s.heap.size + 176))]) hx hb dL_law_2599 hl (by decide) rfl (fun ls hl => ?_)
  exact l_tailI C ⟨hB2, hI, hO⟩ hS (by decide) (by decide) hrel hag hl.1 (lv_at hl 5 rfl) (lv_at hl 6 rfl) (lv_at hl 1 rfl) (lv_at hl 0 rfl) dL_law_2601 dL_law_2602 dL_law_2605 dL_law_2607 dL_law_2612 dL_law_2614 dL_law_2617 dL_law_2618 dL_law_2619 dL_law_2620 dL_law_2622 dL_law_2623 dL_law_2624 dL_law_2629 (by decide) (by omega) (by omega) (fun H3 locs3 h3 hS3 => kk u2 _ H3 locs3 ls h3 hS3 (lv_sub hl [2, 3, 4, 5, 6] rfl))
set_option maxHeartbeats 4000000 in
set_option maxRecDepth 100000 in
theorem cs_39 {p : Program} {l : Launch} {e : Env} {s : State} {m : MethodId} {args : Array Value} {below : List Frame} {meth : Method} {c : Code} {H : Heap} {locs : List Loc} {cells slots : Nat} {Q : State → Prop} {ls : Array Slot} {D : va_G} {cA : Nat → ClassId} {sg : Nat → Nat} {b L i : Nat} {xs : Nat → Int32} {M : Mem} {z : Int64} (C : LC p l s m args c sg cA D b L xs) (hi : i + 5 ≤ L) (hc : cells + 8 ≤ 603072) (hs : slots + 48 ≤ 7215210) (hL : LWS cA D s.heap.size M z H) (hS : va_S (Al s.heap.size) s.heap H locs) (hl : lv_has ls 9 (LV b s.heap.size i)) {d0 : Drawn} (hd0 : s.drawn.sameBut d0 lw_cs)
    (kk : ∀ (d1 : Drawn) (M1 : Mem) (z1 : Int64) (H1 : Heap) (locs1 : List Loc) (ls1 : Array Slot), s.drawn.sameBut d1 lw_cs → LWS cA D s.heap.size M1 z1 H1 → va_S (Al s.heap.size) s.heap H1 locs1 → lv_has ls1 9 (LV b s.heap.size i) → W p l e room_1 (s.setDrawn d1) m args below meth c H1 locs1 (cells + 8) (slots + 48) Q (F0 m 2729 ls1 [])) : W p l e room_1 (s.setDrawn d0) m args below meth c H locs cells slots Q (F0 m 2632 ls []) := by
  obtain ⟨hW, hI, hO⟩ := hL
  obtain ⟨n, hJ, ja, jb, jc, je, g, s8, s9, s10, s11, hF⟩ := hI.2.2.2.1
  have hJ' := hJ
  obtain ⟨hV, c117, s6, e151, _⟩ := hJ
  obtain ⟨htr, hx, hb, hml, hown, hts, hX, hbl, hfix, hnc, hLL⟩ := C.dr d0
  refine lv_aload_n hx hb dL_law_2632 rfl (lv_at hl 2 rfl) ?_
  have hrv := va_recv (s := s.setDrawn d0) hfix.1 hW.1 (gCl_at 11 (by decide)) (wWs_ob (show wOb 149 = 11 + 1 from by decide +kernel))
  refine va_calldD hd0 (va_runV_D (As := []) (rest := []) ⟨hx, hb, hml, hown, hts⟩ (mt_Qmean (ρ := rho s.heap.size) (sg := sg) (cA := cA) (D := D) (sz0 := s.heap.size) htr hV c117 g) (cwV 0 hts (wsV_good wL_287 wL_288 wL_289 wL_31 wL_290) rfl rfl rfl (by decide +kernel) ⟨Nat.le_of_ble_eq_true rfl, Nat.le_of_ble_eq_true rfl⟩) ⟨wPic_blind, hrv, fun U hU hW9 => ⟨rfl, (by rw [hU]; exact hW.1), hW.2.1, (by rw [hU]; exact hW.2.2), hfix.warm hW9 (fun q q1 q2 => by rw [hU]; exact hS.2.1 q q1 (fun h => absurd h (Nat.not_le.mpr q1)))⟩⟩ rfl rfl hl.1 rfl (lv_room (Nat.le_of_ble_eq_true rfl)) dL_law_2633 ⟨by show cells + 0 ≤ 603072; omega, by show slots + 0 ≤ 7215210; omega⟩) hS (fun q _ h => h.1) (fun q h => h.1) (fun r u t H1 locs1 ht hal hp hB hz1 hfr hS d1 hd1 => ?_)
  obtain ⟨hl1, hv1⟩ := hp
  rw [ht] at hB
  have hO := hO.kept hfr
  have hW := hB
  obtain ⟨htr, hx, hb, hml, hown, hts, hX, hbl, hfix, hnc, hLL⟩ := C.dr d1
  refine lv_dstore (lv' := [(5, .double r), (4, .int (Int32.ofInt (i : Int))), (0, .ref b), (1, .ref (rho s.heap.size 149)), (2, .ref (rho s.heap.size 175)), (3, .ref (s.heap.size + 176))]) hx hb dL_law_2636 hl (by decide) rfl (fun ls hl => ?_)
  refine lv_aload_n hx hb dL_law_2638 rfl (lv_at hl 4 rfl) ?_
  have k1 := hl1.1.hi (by decide)
  have e175 := k1 175 (by decide)
  have hrv := va_recv (s := s.setDrawn d1) hfix.1 hW.1 (gCl_at 12 (by decide)) (wWs_ob (show wOb 175 = 12 + 1 from by decide +kernel))
  refine va_calldD hd1 (va_runV_D (As := []) (rest := []) ⟨hx, hb, hml, hown, hts⟩ (mt_Mmean (ρ := rho s.heap.size) (sg := sg) (cA := cA) (D := D) (sz0 := s.heap.size) (M := u) (J := M 94) htr hV (by rw [e175]; exact s6) (by rw [k1 151 (by decide)]; exact e151) (by rw [e175]; exact s8) (by rw [e175]; exact s9) (by rw [e175]; exact s10) (by rw [e175]; exact s11) g.2.2.2.2.1) (cwV 0 hts (wsV_good wL_291 wL_292 wL_293 wL_3 wL_294) rfl rfl rfl (by decide +kernel) ⟨Nat.le_of_ble_eq_true rfl, Nat.le_of_ble_eq_true rfl⟩) ⟨wPic_blind, hrv, fun U hU hW9 => ⟨rfl, (by rw [hU]; exact hW.1), hW.2.1, (by rw [hU]; exact hW.2.2), hfix.warm hW9 (fun q q1 q2 => by rw [hU]; exact hS.2.1 q q1 (fun h => absurd h (Nat.not_le.mpr q1)))⟩⟩ rfl rfl hl.1 rfl (lv_room (Nat.le_of_ble_eq_true rfl)) dL_law_2639 ⟨by show cells + 0 + 0 ≤ 603072; omega, by show slots + 0 + 0 ≤ 7215210; omega⟩) hS (fun q _ h => h.1) (fun q h => h.1) (fun r2 u2 t2 H2 locs2 ht2 hal2 hp2 hB2 hz2 hfr2 hS d3 hd3 => ?_)
  obtain ⟨f2, hv2⟩ := hp2
  rw [ht2] at hB2
  have hO := hO.kept hfr2
  have hI := hI.lin hJ' s8 s9 s10 s11 hF hl1 f2
  obtain ⟨htr, hx, hb, hml, hown, hts, hX, hbl, hfix, hnc, hLL⟩ := C.dr d3
  refine lv_dstore (lv' := [(7, .double r2), (5, .double r), (4, .int (Int32.ofInt (i : Int))), (0, .ref b), (1, .ref (rho s.heap.size 149)), (2, .ref (rho s.heap.size 175)), (3, .ref (s.heap.size + 176))]) hx hb dL_law_2642 hl (by decide) rfl (fun ls hl => ?_)
  have hsame : dSame r r2 := hv1.same hv2
  refine W.widen (k := cells + 8) (n := slots + 48) (by show cells + 0 + 0 ≤ cells + 8; omega) (by show slots + 0 + 0 ≤ slots + 48; omega) ?_
  have fin : W p l e room_1 (s.setDrawn d3) m args below meth c H2 locs2 (cells + 8) (slots + 48) Q (F0 m 2670 ls []) := lv_goto (tgt := 2729) hx hb dL_law_2670 (by decide) (kk d3 u2 z H2 locs2 ls hd3 ⟨hB2, hI, hO⟩ hS (lv_sub hl [2, 3, 4, 5, 6] rfl))
  refine lv_dload hx hb dL_law_2644 (lv_at hl 1 rfl) ?_
  refine lv_dload hx hb dL_law_2646 (lv_at hl 0 rfl) ?_
  refine lv_dcmp hx hb dL_law_2648 ?_
  refine lv_if_eq (tgt := 2670) hx hb dL_law_2649 (by decide) (fun _ => fin) (fun h1 => ?_)
  obtain ⟨h2, h3⟩ := hsame.go h1
  refine lv_dload hx hb dL_law_2652 (lv_at hl 1 rfl) ?_
  refine lv_dload hx hb dL_law_2654 (lv_at hl 1 rfl) ?_
  refine lv_dcmp hx hb dL_law_2656 ?_
  refine lv_if_eq (tgt := 2668) hx hb dL_law_2657 (by decide) (fun h => absurd h h2) (fun _ => ?_)
  refine lv_dload hx hb dL_law_2660 (lv_at hl 0 rfl) ?_
  refine lv_dload hx hb dL_law_2662 (lv_at hl 0 rfl) ?_
  refine lv_dcmp hx hb dL_law_2664 ?_
  exact lv_if_ne (tgt := 2670) hx hb dL_law_2665 (by decide) (fun _ => fin) (fun h => absurd h h3)
set_option maxHeartbeats 4000000 in
set_option maxRecDepth 100000 in
theorem cs_40 {p : Program} {l : Launch} {e : Env} {s : State} {m : MethodId} {args : Array Value} {below : List Frame} {meth : Method} {c : Code} {H : Heap} {locs : List Loc} {cells slots : Nat} {Q : State → Prop} {ls : Array Slot} {D : va_G} {cA : Nat → ClassId} {sg : Nat → Nat} {b L i : Nat} {xs : Nat → Int32} {M : Mem} {z : Int64} (C : LC p l s m args c sg cA D b L xs) (hi : i + 5 ≤ L) (hc : cells + 8 ≤ 603072) (hs : slots + 48 ≤ 7215210) (hL : LWS cA D s.heap.size M z H) (hS : va_S (Al s.heap.size) s.heap H locs) (hl : lv_has ls 9 (LV b s.heap.size i)) {d0 : Drawn} (hd0 : s.drawn.sameBut d0 lw_cs)
    (kk : ∀ (d1 : Drawn) (M1 : Mem) (z1 : Int64) (H1 : Heap) (locs1 : List Loc) (ls1 : Array Slot), s.drawn.sameBut d1 lw_cs → LWS cA D s.heap.size M1 z1 H1 → va_S (Al s.heap.size) s.heap H1 locs1 → lv_has ls1 9 (LV b s.heap.size i) → W p l e room_1 (s.setDrawn d1) m args below meth c H1 locs1 (cells + 8) (slots + 48) Q (F0 m 2729 ls1 [])) : W p l e room_1 (s.setDrawn d0) m args below meth c H locs cells slots Q (F0 m 2673 ls []) := by
  obtain ⟨hW, hI, hO⟩ := hL
  obtain ⟨n, hJ, ja, jb, jc, je, g, s8, s9, s10, s11, hF⟩ := hI.2.2.2.1
  have hJ' := hJ
  obtain ⟨hV, c117, s6, e151, _⟩ := hJ
  obtain ⟨htr, hx, hb, hml, hown, hts, hX, hbl, hfix, hnc, hLL⟩ := C.dr d0
  refine lv_aload_n hx hb dL_law_2673 rfl (lv_at hl 2 rfl) ?_
  have hrv := va_recv (s := s.setDrawn d0) hfix.1 hW.1 (gCl_at 11 (by decide)) (wWs_ob (show wOb 149 = 11 + 1 from by decide +kernel))
  refine va_callfD hd0 (va_runV_D (As := []) (rest := []) ⟨hx, hb, hml, hown, hts⟩ (mt_Qdone (ρ := rho s.heap.size) (sg := sg) (cA := cA) (D := D) (sz0 := s.heap.size) htr hV c117 g) (cwV 0 hts (wsV_good wL_295 wL_296 wL_297 wL_31 wL_298) rfl rfl rfl (by decide +kernel) ⟨Nat.le_of_ble_eq_true rfl, Nat.le_of_ble_eq_true rfl⟩) ⟨wPic_blind, hrv, fun U hU hW9 => ⟨rfl, (by rw [hU]; exact hW.1), hW.2.1, (by rw [hU]; exact hW.2.2), hfix.warm hW9 (fun q q1 q2 => by rw [hU]; exact hS.2.1 q q1 (fun h => absurd h (Nat.not_le.mpr q1)))⟩⟩ rfl rfl hl.1 rfl (lv_room (Nat.le_of_ble_eq_true rfl)) dL_law_2674 ⟨by show cells + 0 ≤ 603072; omega, by show slots + 0 ≤ 7215210; omega⟩) hS (fun q _ h => h.1) (fun q h => h.1) (fun r u t H1 locs1 ht hal hp hB hz1 hfr hS d1 hd1 => ?_)
  obtain ⟨hl1, hv1⟩ := hp
  rw [ht] at hB
  have hO := hO.kept hfr
  have hW := hB
  obtain ⟨htr, hx, hb, hml, hown, hts, hX, hbl, hfix, hnc, hLL⟩ := C.dr d1
  refine lv_f2d_any hd1 lw_bits hx hb dL_law_2677 (fun pd d2 hpd hd2 => ?_)
  obtain ⟨htr, hx, hb, hml, hown, hts, hX, hbl, hfix, hnc, hLL⟩ := C.dr d2
  refine lv_dstore (lv' := [(5, .double pd), (4, .int (Int32.ofInt (i : Int))), (0, .ref b), (1, .ref (rho s.heap.size 149)), (2, .ref (rho s.heap.size 175)), (3, .ref (s.heap.size + 176))]) hx hb dL_law_2678 hl (by decide) rfl (fun ls hl => ?_)
  refine lv_aload_n hx hb dL_law_2680 rfl (lv_at hl 4 rfl) ?_
  have k1 := hl1.1.hi (by decide)
  have e175 := k1 175 (by decide)
  have hrv := va_recv (s := s.setDrawn d2) hfix.1 hW.1 (gCl_at 12 (by decide)) (wWs_ob (show wOb 175 = 12 + 1 from by decide +kernel))
  refine va_callfD hd2 (va_runV_D (As := []) (rest := []) ⟨hx, hb, hml, hown, hts⟩ (mt_Mdone (ρ := rho s.heap.size) (sg := sg) (cA := cA) (D := D) (sz0 := s.heap.size) (M := u) (J := M 94) htr hV (by rw [e175]; exact s6) (by rw [k1 151 (by decide)]; exact e151) (by rw [e175]; exact s8) (by rw [e175]; exact s9) (by rw [e175]; exact s10) (by rw [e175]; exact s11) g.2.2.2.2.1) (cwV 0 hts (wsV_good wL_299 wL_300 wL_301 wL_3 wL_302) rfl rfl rfl (by decide +kernel) ⟨Nat.le_of_ble_eq_true rfl, Nat.le_of_ble_eq_true rfl⟩) ⟨wPic_blind, hrv, fun U hU hW9 => ⟨rfl, (by rw [hU]; exact hW.1), hW.2.1, (by rw [hU]; exact hW.2.2), hfix.warm hW9 (fun q q1 q2 => by rw [hU]; exact hS.2.1 q q1 (fun h => absurd h (Nat.not_le.mpr q1)))⟩⟩ rfl rfl hl.1 rfl (lv_room (Nat.le_of_ble_eq_true rfl)) dL_law_2681 ⟨by show cells + 0 + 0 ≤ 603072; omega, by show slots + 0 + 0 ≤ 7215210; omega⟩) hS (fun q _ h => h.1) (fun q h => h.1) (fun r2 u2 t2 H2 locs2 ht2 hal2 hp2 hB2 hz2 hfr2 hS d3 hd3 => ?_)
  obtain ⟨f2, hv2⟩ := hp2
  rw [ht2] at hB2
  have hO := hO.kept hfr2
  have hI := hI.lin hJ' s8 s9 s10 s11 hF hl1 f2
  obtain ⟨htr, hx, hb, hml, hown, hts, hX, hbl, hfix, hnc, hLL⟩ := C.dr d3
  refine lv_f2d_any hd3 lw_bits hx hb dL_law_2684 (fun qd d4 hqd hd4 => ?_)
  obtain ⟨htr, hx, hb, hml, hown, hts, hX, hbl, hfix, hnc, hLL⟩ := C.dr d4
  refine lv_dstore (lv' := [(7, .double qd), (5, .double pd), (4, .int (Int32.ofInt (i : Int))), (0, .ref b), (1, .ref (rho s.heap.size 149)), (2, .ref (rho s.heap.size 175)), (3, .ref (s.heap.size + 176))]) hx hb dL_law_2685 hl (by decide) rfl (fun ls hl => ?_)
  have hsame : dSame pd qd := hv1.same hv2 hpd hqd
  refine W.widen (k := cells + 8) (n := slots + 48) (by show cells + 0 + 0 ≤ cells + 8; omega) (by show slots + 0 + 0 ≤ slots + 48; omega) ?_
  have fin : W p l e room_1 (s.setDrawn d4) m args below meth c H2 locs2 (cells + 8) (slots + 48) Q (F0 m 2713 ls []) := lv_goto (tgt := 2729) hx hb dL_law_2713 (by decide) (kk d4 u2 z H2 locs2 ls hd4 ⟨hB2, hI, hO⟩ hS (lv_sub hl [2, 3, 4, 5, 6] rfl))
  refine lv_dload hx hb dL_law_2687 (lv_at hl 1 rfl) ?_
  refine lv_dload hx hb dL_law_2689 (lv_at hl 0 rfl) ?_
  refine lv_dcmp hx hb dL_law_2691 ?_
  refine lv_if_eq (tgt := 2713) hx hb dL_law_2692 (by decide) (fun _ => fin) (fun h1 => ?_)
  obtain ⟨h2, h3⟩ := hsame.go h1
  refine lv_dload hx hb dL_law_2695 (lv_at hl 1 rfl) ?_
  refine lv_dload hx hb dL_law_2697 (lv_at hl 1 rfl) ?_
  refine lv_dcmp hx hb dL_law_2699 ?_
  refine lv_if_eq (tgt := 2711) hx hb dL_law_2700 (by decide) (fun h => absurd h h2) (fun _ => ?_)
  refine lv_dload hx hb dL_law_2703 (lv_at hl 0 rfl) ?_
  refine lv_dload hx hb dL_law_2705 (lv_at hl 0 rfl) ?_
  refine lv_dcmp hx hb dL_law_2707 ?_
  exact lv_if_ne (tgt := 2713) hx hb dL_law_2708 (by decide) (fun _ => fin) (fun h => absurd h h3)
set_option maxHeartbeats 4000000 in
set_option maxRecDepth 100000 in
theorem cs_41 {p : Program} {l : Launch} {e : Env} {s : State} {m : MethodId} {args : Array Value} {below : List Frame} {meth : Method} {c : Code} {H : Heap} {locs : List Loc} {cells slots : Nat} {Q : State → Prop} {ls : Array Slot} {D : va_G} {cA : Nat → ClassId} {sg : Nat → Nat} {b L i : Nat} {xs : Nat → Int32} {M : Mem} {z : Int64} (C : LC p l s m args c sg cA D b L xs) (hi : i + 5 ≤ L) (hc : cells + 8 ≤ 603072) (hs : slots + 48 ≤ 7215210) (hL : LWS cA D s.heap.size M z H) (hS : va_S (Al s.heap.size) s.heap H locs) (hl : lv_has ls 9 (LV b s.heap.size i))
    (kk : ∀ (M1 : Mem) (z1 : Int64) (H1 : Heap) (locs1 : List Loc) (ls1 : Array Slot), LWS cA D s.heap.size M1 z1 H1 → va_S (Al s.heap.size) s.heap H1 locs1 → lv_has ls1 9 (LV b s.heap.size i) → W p l e room_1 s m args below meth c H1 locs1 (cells + 8) (slots + 48) Q (F0 m 2729 ls1 [])) : W p l e room_1 s m args below meth c H locs cells slots Q (F0 m 2716 ls []) := by
  obtain ⟨htr, hx, hb, hml, hown, hts, hX, hbl, hfix, hnc, hLL⟩ := id C
  obtain ⟨hW, hI, hO⟩ := hL
  refine lv_aload_n hx hb dL_law_2716 rfl (lv_at hl 2 rfl) ?_
  have hca := h_errors M hI
  have hM := snd (ρ := rho s.heap.size) (sg := sg) (cA := cA) (D := D) (sz0 := s.heap.size) htr 8 cQ_errors _ _ _ hca nQ_errors rfl
  have hrv := va_recv hfix.1 hW.1 (gCl_at 11 (by decide)) (wWs_ob (show wOb 149 = 11 + 1 from by decide +kernel))
  refine vx_calli (vx_runV (As := []) (rest := []) ⟨hx, hb, hml, hown, hts⟩ hM (cwV 0 hts (wsV_good wL_303 wL_304 wL_305 wL_31 wL_306) rfl rfl rfl (by decide +kernel) ⟨Nat.le_of_ble_eq_true rfl, Nat.le_of_ble_eq_true rfl⟩) ⟨wPic_blind, hrv, fun U hU hW9 => ⟨rfl, (by rw [hU]; exact hW.1), hW.2.1, (by rw [hU]; exact hW.2.2), hfix.warm hW9 (fun q q1 q2 => by rw [hU]; exact hS.2.1 q q1 (fun h => absurd h (Nat.not_le.mpr q1)))⟩⟩ rfl rfl hl.1 rfl (lv_room (Nat.le_of_ble_eq_true rfl)) dL_law_2717 ⟨by show cells + 0 ≤ 603072; omega, by show slots + 6 * 0 ≤ 7215210; omega⟩) hS (fun q _ h => h.1) (fun q h => h.1) (fun q _ h => h.1) (fun E ce q9 u2 t2 H2 locs2 ht2 hal2 hp2 => absurd (agr_es hp2) List.not_mem_nil) (fun r u t H1 locs1 ht hal hp hB hz1 hfr hS => ?_)
  obtain ⟨x, rfl, hq⟩ := hp
  rw [ht] at hB
  have hO := hO.kept hfr
  have hW := hB
  refine lv_aload_n hx hb dL_law_2720 rfl (lv_at hl 3 rfl) ?_
  have hM := snd (ρ := rho s.heap.size) (sg := sg) (cA := cA) (D := D) (sz0 := s.heap.size) htr 10 cM_errors _ _ _ hq nM_errors rfl
  have hrv := va_recv hfix.1 hW.1 (gCl_at 12 (by decide)) (wWs_ob (show wOb 175 = 12 + 1 from by decide +kernel))
  refine vx_calli (vx_runV (As := []) (rest := [.int (Int32.ofInt x)]) ⟨hx, hb, hml, hown, hts⟩ hM (cwV 0 hts (wsV_good wL_307 wL_308 wL_309 wL_3 wL_310) rfl rfl rfl (by decide +kernel) ⟨Nat.le_of_ble_eq_true rfl, Nat.le_of_ble_eq_true rfl⟩) ⟨wPic_blind, hrv, fun U hU hW9 => ⟨rfl, (by rw [hU]; exact hW.1), hW.2.1, (by rw [hU]; exact hW.2.2), hfix.warm hW9 (fun q q1 q2 => by rw [hU]; exact hS.2.1 q q1 (fun h => absurd h (Nat.not_le.mpr q1)))⟩⟩ rfl rfl hl.1 rfl (lv_room (Nat.le_of_ble_eq_true rfl)) dL_law_2721 ⟨by show cells + 0 + 0 ≤ 603072; omega, by show slots + 6 * 0 + 6 * 0 ≤ 7215210; omega⟩) hS (fun q _ h => h.1) (fun q h => h.1) (fun q _ h => h.1) (fun E ce q9 u2 t2 H2 locs2 ht2 hal2 hp2 => absurd hp2.2 agr.no) (fun r2 u2 t2 H2 locs2 ht2 hal2 hp2 hB2 hz2 hfr2 hS => ?_)
  obtain ⟨y, rfl, hI, hag⟩ := hp2
  rw [ht2] at hB2
  have hO := hO.kept hfr2
  have hy := agr_val hag
  subst hy
  refine W.widen (k := cells + 8) (n := slots + 48) (by show cells + 0 + 0 ≤ cells + 8; omega) (by show slots + 6 * 0 + 6 * 0 ≤ slots + 48; omega) ?_
  exact lv_icmp_eq (tgt := 2729) hx hb dL_law_2724 (by decide) (fun _ => kk u2 z H2 locs2 ls ⟨hB2, hI, hO⟩ hS hl) (fun h => absurd rfl h)
