/-! The first world holds what holds between the calls; the reference's fractions are set, one by one. -/
theorem M1_off {a : Nat} (h : a ∉ [2, 3, 54, 63, 118, 130, 133, 142, 143, 148, 154, 156, 175]) : M1 a = fun _ => 0 := by
  simp only [List.mem_cons, List.not_mem_nil, or_false, not_or] at h
  obtain ⟨h1, h2, h3, h4, h5, h6, h7, h8, h9, h10, h11, h12, h13⟩ := h
  unfold M1
  rw [if_neg h1, if_neg h2, if_neg h3, if_neg h4, if_neg h5, if_neg h6, if_neg h7, if_neg h8, if_neg h9, if_neg h10, if_neg h11, if_neg h12, if_neg h13]
theorem big_r32 : ∀ i : Nat, R32 (0 : Int) := fun _ => ⟨by decide, by decide⟩
theorem iv_first {M : Mem} (f : FM [] [] (List.range 90) M1 M) (h : ∀ q, q < 90 → FQ M q 0) : Iv M := by
  have k : ∀ a, a ≠ 163 → a ≠ 164 → a ≠ 165 → a ≠ 175 → M a = M1 a := fun a h1 h2 h3 h4 => f.1 a h1 h2 h3 h4 (by simp)
  have s : ∀ j, M 175 j = M1 175 j := fun j => f.2.1 j (by simp)
  have z : ∀ a, a ∉ [2, 3, 54, 63, 118, 130, 133, 142, 143, 148, 154, 156, 175] → a ≠ 163 → a ≠ 164 → a ≠ 165 → M a = fun _ => 0 := fun a h0 h1 h2 h3 => by
    rw [k a h1 h2 h3 (fun e => h0 (by subst e; decide)), M1_off h0]
  have e2 : M 2 = fun k => if k = 1 then 1 else 0 := k 2 (by decide) (by decide) (by decide) (by decide)
  have e3 : M 3 = fun k => if k = 0 then 1 else 0 := k 3 (by decide) (by decide) (by decide) (by decide)
  have hF : vF M := by
    refine ⟨0, Rat.le_refl, ⟨?_, ?_⟩, h 80 (by decide)⟩
    · refine ⟨?_, 0, by omega, ?_, ?_, Or.inl rfl, rfl⟩
      · rw [z 1 (by decide) (by decide) (by decide) (by decide)]; exact Dg.zero
      · rw [z 0 (by decide) (by decide) (by decide) (by decide)]; rfl
      · intro i _; rw [z 1 (by decide) (by decide) (by decide) (by decide)]
    · refine ⟨?_, 1, by omega, ?_, ?_, Or.inr ?_, ?_⟩
      · show Dg BB (M 3)
        rw [e3]
        intro i
        by_cases hi : i = 0
        · simp only [hi]; decide
        · simp only [hi]; decide
      · rw [e2]; rfl
      · intro i hi
        show M 3 i = 0
        rw [e3]
        exact if_neg (by omega)
      · show M 3 0 ≠ 0
        rw [e3]; decide
      · show _ = bs BB (M 3) 1
        rw [e3]; decide
  have hZ : AZ M := by
    intro r hr i hi
    have h1 := hr.1
    have h2 := hr.2
    by_cases q : r + 1 = 3
    · rw [q, e3]
      exact if_neg (by omega)
    · by_cases q2 : r + 1 = 2
      · rw [q2, e2]
        exact if_neg (by omega)
      · rw [z (r + 1) (by simp; omega) (by omega) (by omega) (by omega)]
  have hT : vT M := by
    refine ⟨0, ⟨?_, by omega, ?_⟩, ?_, ?_, ?_⟩
    · rw [z 93 (by decide) (by decide) (by decide) (by decide)]; rfl
    · intro i; rw [z 91 (by decide) (by decide) (by decide) (by decide)]; exact big_r32 i
    · rw [z 150 (by decide) (by decide) (by decide) (by decide), z 91 (by decide) (by decide) (by decide) (by decide)]
    · rw [s]; rfl
    · intro i; rw [z 92 (by decide) (by decide) (by decide) (by decide)]; exact big_r32 i
  have e117 := z 117 (by decide) (by decide) (by decide) (by decide)
  have hJ : vJ M 0 := by
    refine ⟨⟨by omega, fun k hk => absurd hk (Nat.not_lt_zero k), fun k hk => absurd hk (Nat.not_lt_zero _)⟩, by rw [e117]; rfl, by rw [s]; rfl, ?_, 0, fun _ => 0, fun _ _ => 0, ⟨by omega, by rw [e117]; rfl, 0, by omega, by rw [e117]; rfl, fun j hj => absurd hj (Nat.not_lt_zero j)⟩, ⟨by omega, by rw [s]; rfl, fun j hj => absurd hj (Nat.not_lt_zero j)⟩, fun k hk => absurd hk (Nat.not_lt_zero k)⟩
    rw [z 151 (by decide) (by decide) (by decide) (by decide), z 94 (by decide) (by decide) (by decide) (by decide)]
  have e54 : M 54 = fun k => if k = 0 then 1 else if k = 2 then 24 else if k = 3 then 999 else 0 := k 54 (by decide) (by decide) (by decide) (by decide)
  have e148 : M 148 = fun k => if k < 6 then -1 else 0 := k 148 (by decide) (by decide) (by decide) (by decide)
  have hL : vL M 0 := by
    refine ⟨1, 0, 24, 999, ⟨by rw [e54]; rfl, by rw [e54]; rfl, by rw [e54]; rfl, by rw [e54]; rfl, ⟨by omega, by omega, by omega, by omega⟩, Or.inl ?_⟩, by rw [s]; rfl, by rw [s]; rfl, by rw [s]; rfl, by rw [s]; rfl, fun r hr => Or.inl ?_, fun q => absurd ?_ q⟩
    · rw [z 149 (by decide) (by decide) (by decide) (by decide)]
    · rw [e148]; exact if_pos hr
    · rw [e148]; rfl
  have e130 : M 130 = fun k => if k = 0 then 1 else if k = 1 then 1 else 0 := k 130 (by decide) (by decide) (by decide) (by decide)
  have e118 : M 118 = fun k => if k = 0 then 1 else 0 := k 118 (by decide) (by decide) (by decide) (by decide)
  have e154 : M 154 = fun k => if k = 0 then 1 else 0 := k 154 (by decide) (by decide) (by decide) (by decide)
  have hC : vC M := by
    refine ⟨1, 1, fun i j => if i = 0 ∧ j = 0 then 1 else 0, ⟨by omega, by omega, fun i j _ _ => ?_, fun i j hi hj _ => if_neg (by omega)⟩, ⟨by rw [e130]; rfl, by rw [e130]; rfl, fun i j hi hj => ?_⟩, by rw [s]; rfl, by rw [s]; rfl, fun i j hi hj => ?_⟩
    · show 0 ≤ (if _ then (1 : Int) else 0) ∧ (if _ then (1 : Int) else 0) ≤ 1
      split <;> omega
    · by_cases q : i = 0
      · subst q
        rw [show 118 + 0 = 118 from rfl, e118]
        by_cases q2 : j = 0
        · subst q2; rfl
        · show (if j = 0 then (1 : Int) else 0) = if 0 = 0 ∧ j = 0 then 1 else 0
          rw [if_neg q2, if_neg (by omega)]
      · rw [z (118 + i) (by simp; omega) (by omega) (by omega) (by omega)]
        exact (if_neg (by omega)).symm
    · rw [e154]
      show (if 7 * i + j = 0 then (1 : Int) else 0) = if i = 0 ∧ j = 0 then 1 else 0
      by_cases q : i = 0 ∧ j = 0
      · rw [if_pos q, if_pos (by omega)]
      · rw [if_neg q, if_neg (by omega)]
  have e142 : M 142 = fun k => if k = 0 then 1 else if k = 7 then 1 else 0 := k 142 (by decide) (by decide) (by decide) (by decide)
  have e133 : M 133 = fun k => if k < 4 then 1 else 0 := k 133 (by decide) (by decide) (by decide) (by decide)
  have e156 : M 156 = fun k => if k = 0 then 1 else 0 := k 156 (by decide) (by decide) (by decide) (by decide)
  have hN : vN M := by
    refine ⟨1, fun _ => 0, fun _ => 1, fun _ _ => 0, nOk_new ⟨by omega, by omega⟩, ⟨by rw [e142]; rfl, fun i hi => ?_, fun i hi => ?_, fun i j hi hj => ?_⟩, by rw [s]; rfl, fun i hi => ?_, fun i hi => ?_, fun i j hi hj => ?_⟩
    · rw [z 132 (by decide) (by decide) (by decide) (by decide)]
    · rw [e133]; exact if_pos hi
    · rw [z (134 + i) (by simp; omega) (by omega) (by omega) (by omega)]
    · rw [z 155 (by decide) (by decide) (by decide) (by decide)]
    · rw [e156]; exact if_pos (by omega)
    · rw [z 157 (by decide) (by decide) (by decide) (by decide)]
  have e143 : M 143 = fun k => if k = 2 then 1 else if k = 6 then 1 else 0 := k 143 (by decide) (by decide) (by decide) (by decide)
  have hE : vE M := by
    refine ⟨0, 0, 1, 0, M 158, M 159, M 160, ⟨by omega, by omega, by omega, by omega, fun i hi => absurd hi (Nat.not_lt_zero i)⟩, ⟨by rw [e143]; rfl, by rw [e143]; rfl, by rw [e143]; rfl, by rw [e143]; rfl, by rw [e143]; rfl, fun q => absurd q (Nat.lt_irrefl 0)⟩, by rw [s]; rfl, by rw [s]; rfl, by rw [s]; rfl, by rw [s]; rfl, rfl, rfl, rfl⟩
  have hG : vG M := by
    refine ⟨fun l hl => ?_, ?_, ?_⟩
    · rw [z 144 (by decide) (by decide) (by decide) (by decide), z 145 (by decide) (by decide) (by decide) (by decide)]
      exact ⟨⟨Int.le_refl 0, (by show (0 : Int) ≤ 999; decide)⟩, Int.le_refl 0, (by show (0 : Int) ≤ 99; decide)⟩
    · rw [z 161 (by decide) (by decide) (by decide) (by decide), z 144 (by decide) (by decide) (by decide) (by decide)]
    · rw [z 162 (by decide) (by decide) (by decide) (by decide), z 145 (by decide) (by decide) (by decide) (by decide)]
  exact ⟨hF, hZ, hT, ⟨0, hJ, hL⟩, hC, hN, hE, hG⟩
theorem dX12_init_0 : decode cX12_init 0 = .ok (.aload_n 0, 1) := by decide +kernel
theorem dX12_init_1 : decode cX12_init 1 = .ok (.invokespecial 1, 3) := by decide +kernel
theorem dX12_init_4 : decode cX12_init 4 = .ok (.aload_n 0, 1) := by decide +kernel
theorem dX12_init_5 : decode cX12_init 5 = .ok (.sipush 900, 3) := by decide +kernel
theorem dX12_init_8 : decode cX12_init 8 = .ok (.newarray .int, 2) := by decide +kernel
theorem dX12_init_10 : decode cX12_init 10 = .ok (.putfield 7, 3) := by decide +kernel
theorem dX12_init_13 : decode cX12_init 13 = .ok (.aload_n 0, 1) := by decide +kernel
theorem dX12_init_14 : decode cX12_init 14 = .ok (.bipush 96, 2) := by decide +kernel
theorem dX12_init_16 : decode cX12_init 16 = .ok (.newarray .int, 2) := by decide +kernel
theorem dX12_init_18 : decode cX12_init 18 = .ok (.putfield 13, 3) := by decide +kernel
theorem dX12_init_21 : decode cX12_init 21 = .ok (.aload_n 0, 1) := by decide +kernel
theorem dX12_init_22 : decode cX12_init 22 = .ok (.sipush 1920, 3) := by decide +kernel
theorem dX12_init_25 : decode cX12_init 25 = .ok (.newarray .int, 2) := by decide +kernel
theorem dX12_init_27 : decode cX12_init 27 = .ok (.putfield 16, 3) := by decide +kernel
theorem dX12_init_30 : decode cX12_init 30 = .ok (.aload_n 0, 1) := by decide +kernel
theorem dX12_init_31 : decode cX12_init 31 = .ok (.bipush 20, 2) := by decide +kernel
theorem dX12_init_33 : decode cX12_init 33 = .ok (.newarray .int, 2) := by decide +kernel
theorem dX12_init_35 : decode cX12_init 35 = .ok (.putfield 19, 3) := by decide +kernel
theorem dX12_init_38 : decode cX12_init 38 = .ok (.aload_n 0, 1) := by decide +kernel
theorem dX12_init_39 : decode cX12_init 39 = .ok (.iconst 1, 1) := by decide +kernel
theorem dX12_init_40 : decode cX12_init 40 = .ok (.putfield 22, 3) := by decide +kernel
theorem dX12_init_43 : decode cX12_init 43 = .ok (.aload_n 0, 1) := by decide +kernel
theorem dX12_init_44 : decode cX12_init 44 = .ok (.bipush 24, 2) := by decide +kernel
theorem dX12_init_46 : decode cX12_init 46 = .ok (.putfield 26, 3) := by decide +kernel
theorem dX12_init_49 : decode cX12_init 49 = .ok (.aload_n 0, 1) := by decide +kernel
theorem dX12_init_50 : decode cX12_init 50 = .ok (.sipush 999, 3) := by decide +kernel
theorem dX12_init_53 : decode cX12_init 53 = .ok (.putfield 29, 3) := by decide +kernel
theorem dX12_init_56 : decode cX12_init 56 = .ok (.aload_n 0, 1) := by decide +kernel
theorem dX12_init_57 : decode cX12_init 57 = .ok (.bipush 49, 2) := by decide +kernel
theorem dX12_init_59 : decode cX12_init 59 = .ok (.newarray .int, 2) := by decide +kernel
theorem dX12_init_61 : decode cX12_init 61 = .ok (.putfield 32, 3) := by decide +kernel
theorem dX12_init_64 : decode cX12_init 64 = .ok (.aload_n 0, 1) := by decide +kernel
theorem dX12_init_65 : decode cX12_init 65 = .ok (.iconst 4, 1) := by decide +kernel
theorem dX12_init_66 : decode cX12_init 66 = .ok (.newarray .int, 2) := by decide +kernel
theorem dX12_init_68 : decode cX12_init 68 = .ok (.putfield 35, 3) := by decide +kernel
theorem dX12_init_71 : decode cX12_init 71 = .ok (.aload_n 0, 1) := by decide +kernel
theorem dX12_init_72 : decode cX12_init 72 = .ok (.iconst 4, 1) := by decide +kernel
theorem dX12_init_73 : decode cX12_init 73 = .ok (.newarray .int, 2) := by decide +kernel
theorem dX12_init_75 : decode cX12_init 75 = .ok (.putfield 38, 3) := by decide +kernel
theorem dX12_init_78 : decode cX12_init 78 = .ok (.aload_n 0, 1) := by decide +kernel
theorem dX12_init_79 : decode cX12_init 79 = .ok (.bipush 16, 2) := by decide +kernel
theorem dX12_init_81 : decode cX12_init 81 = .ok (.newarray .int, 2) := by decide +kernel
theorem dX12_init_83 : decode cX12_init 83 = .ok (.putfield 41, 3) := by decide +kernel
theorem dX12_init_86 : decode cX12_init 86 = .ok (.aload_n 0, 1) := by decide +kernel
theorem dX12_init_87 : decode cX12_init 87 = .ok (.iconst 1, 1) := by decide +kernel
theorem dX12_init_88 : decode cX12_init 88 = .ok (.putfield 44, 3) := by decide +kernel
theorem dX12_init_91 : decode cX12_init 91 = .ok (.aload_n 0, 1) := by decide +kernel
theorem dX12_init_92 : decode cX12_init 92 = .ok (.iconst 1, 1) := by decide +kernel
theorem dX12_init_93 : decode cX12_init 93 = .ok (.putfield 47, 3) := by decide +kernel
theorem dX12_init_96 : decode cX12_init 96 = .ok (.aload_n 0, 1) := by decide +kernel
theorem dX12_init_97 : decode cX12_init 97 = .ok (.iconst 1, 1) := by decide +kernel
theorem dX12_init_98 : decode cX12_init 98 = .ok (.putfield 50, 3) := by decide +kernel
theorem dX12_init_101 : decode cX12_init 101 = .ok (.aload_n 0, 1) := by decide +kernel
theorem dX12_init_102 : decode cX12_init 102 = .ok (.iconst 4, 1) := by decide +kernel
theorem dX12_init_103 : decode cX12_init 103 = .ok (.newarray .int, 2) := by decide +kernel
theorem dX12_init_105 : decode cX12_init 105 = .ok (.putfield 53, 3) := by decide +kernel
theorem dX12_init_108 : decode cX12_init 108 = .ok (.aload_n 0, 1) := by decide +kernel
theorem dX12_init_109 : decode cX12_init 109 = .ok (.iconst 4, 1) := by decide +kernel
theorem dX12_init_110 : decode cX12_init 110 = .ok (.newarray .int, 2) := by decide +kernel
theorem dX12_init_112 : decode cX12_init 112 = .ok (.putfield 56, 3) := by decide +kernel
theorem dX12_init_115 : decode cX12_init 115 = .ok (.aload_n 0, 1) := by decide +kernel
theorem dX12_init_116 : decode cX12_init 116 = .ok (.iconst 4, 1) := by decide +kernel
theorem dX12_init_117 : decode cX12_init 117 = .ok (.newarray .int, 2) := by decide +kernel
theorem dX12_init_119 : decode cX12_init 119 = .ok (.putfield 59, 3) := by decide +kernel
theorem dX12_init_122 : decode cX12_init 122 = .ok (.aload_n 0, 1) := by decide +kernel
theorem dX12_init_123 : decode cX12_init 123 = .ok (.iconst 3, 1) := by decide +kernel
theorem dX12_init_124 : decode cX12_init 124 = .ok (.newarray .int, 2) := by decide +kernel
theorem dX12_init_126 : decode cX12_init 126 = .ok (.putfield 62, 3) := by decide +kernel
theorem dX12_init_129 : decode cX12_init 129 = .ok (.aload_n 0, 1) := by decide +kernel
theorem dX12_init_130 : decode cX12_init 130 = .ok (.iconst 3, 1) := by decide +kernel
theorem dX12_init_131 : decode cX12_init 131 = .ok (.newarray .int, 2) := by decide +kernel
theorem dX12_init_133 : decode cX12_init 133 = .ok (.putfield 65, 3) := by decide +kernel
theorem dX12_init_136 : decode cX12_init 136 = .ok (.aload_n 0, 1) := by decide +kernel
theorem dX12_init_137 : decode cX12_init 137 = .ok (.iconst 1, 1) := by decide +kernel
theorem dX12_init_138 : decode cX12_init 138 = .ok (.putfield 68, 3) := by decide +kernel
theorem dX12_init_141 : decode cX12_init 141 = .ok (.aload_n 0, 1) := by decide +kernel
theorem dX12_init_142 : decode cX12_init 142 = .ok (.ldc 71, 2) := by decide +kernel
theorem dX12_init_144 : decode cX12_init 144 = .ok (.newarray .int, 2) := by decide +kernel
theorem dX12_init_146 : decode cX12_init 146 = .ok (.putfield 72, 3) := by decide +kernel
theorem dX12_init_149 : decode cX12_init 149 = .ok (.aload_n 0, 1) := by decide +kernel
theorem dX12_init_150 : decode cX12_init 150 = .ok (.sipush 200, 3) := by decide +kernel
theorem dX12_init_153 : decode cX12_init 153 = .ok (.newarray .int, 2) := by decide +kernel
theorem dX12_init_155 : decode cX12_init 155 = .ok (.putfield 75, 3) := by decide +kernel
theorem dX12_init_158 : decode cX12_init 158 = .ok (.aload_n 0, 1) := by decide +kernel
theorem dX12_init_159 : decode cX12_init 159 = .ok (.bipush 100, 2) := by decide +kernel
theorem dX12_init_161 : decode cX12_init 161 = .ok (.newarray .int, 2) := by decide +kernel
theorem dX12_init_163 : decode cX12_init 163 = .ok (.putfield 78, 3) := by decide +kernel
theorem dX12_init_166 : decode cX12_init 166 = .ok (.aload_n 0, 1) := by decide +kernel
theorem dX12_init_167 : decode cX12_init 167 = .ok (.sipush 600, 3) := by decide +kernel
theorem dX12_init_170 : decode cX12_init 170 = .ok (.newarray .int, 2) := by decide +kernel
theorem dX12_init_172 : decode cX12_init 172 = .ok (.putfield 81, 3) := by decide +kernel
theorem dX12_init_175 : decode cX12_init 175 = .ok (.aload_n 0, 1) := by decide +kernel
theorem dX12_init_176 : decode cX12_init 176 = .ok (.bipush 24, 2) := by decide +kernel
theorem dX12_init_178 : decode cX12_init 178 = .ok (.newarray .int, 2) := by decide +kernel
theorem dX12_init_180 : decode cX12_init 180 = .ok (.putfield 84, 3) := by decide +kernel
theorem dX12_init_183 : decode cX12_init 183 = .ok (.aload_n 0, 1) := by decide +kernel
theorem dX12_init_184 : decode cX12_init 184 = .ok (.bipush 24, 2) := by decide +kernel
theorem dX12_init_186 : decode cX12_init 186 = .ok (.newarray .int, 2) := by decide +kernel
theorem dX12_init_188 : decode cX12_init 188 = .ok (.putfield 87, 3) := by decide +kernel
theorem dX12_init_191 : decode cX12_init 191 = .ok (.aload_n 0, 1) := by decide +kernel
theorem dX12_init_192 : decode cX12_init 192 = .ok (.bipush 24, 2) := by decide +kernel
theorem dX12_init_194 : decode cX12_init 194 = .ok (.newarray .int, 2) := by decide +kernel
theorem dX12_init_196 : decode cX12_init 196 = .ok (.putfield 90, 3) := by decide +kernel
theorem dX12_init_199 : decode cX12_init 199 = .ok (.aload_n 0, 1) := by decide +kernel
theorem dX12_init_200 : decode cX12_init 200 = .ok (.bipush 24, 2) := by decide +kernel
theorem dX12_init_202 : decode cX12_init 202 = .ok (.newarray .int, 2) := by decide +kernel
theorem dX12_init_204 : decode cX12_init 204 = .ok (.putfield 93, 3) := by decide +kernel
theorem dX12_init_207 : decode cX12_init 207 = .ok (.aload_n 0, 1) := by decide +kernel
theorem dX12_init_208 : decode cX12_init 208 = .ok (.bipush 24, 2) := by decide +kernel
theorem dX12_init_210 : decode cX12_init 210 = .ok (.newarray .int, 2) := by decide +kernel
theorem dX12_init_212 : decode cX12_init 212 = .ok (.putfield 96, 3) := by decide +kernel
theorem dX12_init_215 : decode cX12_init 215 = .ok (.aload_n 0, 1) := by decide +kernel
theorem dX12_init_216 : decode cX12_init 216 = .ok (.sipush 2000, 3) := by decide +kernel
theorem dX12_init_219 : decode cX12_init 219 = .ok (.newarray .int, 2) := by decide +kernel
theorem dX12_init_221 : decode cX12_init 221 = .ok (.putfield 99, 3) := by decide +kernel
theorem dX12_init_224 : decode cX12_init 224 = .ok (.aload_n 0, 1) := by decide +kernel
theorem dX12_init_225 : decode cX12_init 225 = .ok (.bipush 7, 2) := by decide +kernel
theorem dX12_init_227 : decode cX12_init 227 = .ok (.newarray .int, 2) := by decide +kernel
theorem dX12_init_229 : decode cX12_init 229 = .ok (.putfield 102, 3) := by decide +kernel
theorem dX12_init_232 : decode cX12_init 232 = .ok (.aload_n 0, 1) := by decide +kernel
theorem dX12_init_233 : decode cX12_init 233 = .ok (.iconst 3, 1) := by decide +kernel
theorem dX12_init_234 : decode cX12_init 234 = .ok (.newarray .int, 2) := by decide +kernel
theorem dX12_init_236 : decode cX12_init 236 = .ok (.putfield 105, 3) := by decide +kernel
theorem dX12_init_239 : decode cX12_init 239 = .ok (.aload_n 0, 1) := by decide +kernel
theorem dX12_init_240 : decode cX12_init 240 = .ok (.getfield 32, 3) := by decide +kernel
theorem dX12_init_243 : decode cX12_init 243 = .ok (.iconst 0, 1) := by decide +kernel
theorem dX12_init_244 : decode cX12_init 244 = .ok (.iconst 1, 1) := by decide +kernel
theorem dX12_init_245 : decode cX12_init 245 = .ok (.iastore, 1) := by decide +kernel
theorem dX12_init_246 : decode cX12_init 246 = .ok (.aload_n 0, 1) := by decide +kernel
theorem dX12_init_247 : decode cX12_init 247 = .ok (.getfield 38, 3) := by decide +kernel
theorem dX12_init_250 : decode cX12_init 250 = .ok (.iconst 0, 1) := by decide +kernel
theorem dX12_init_251 : decode cX12_init 251 = .ok (.iconst 1, 1) := by decide +kernel
theorem dX12_init_252 : decode cX12_init 252 = .ok (.iastore, 1) := by decide +kernel
theorem dX12_init_253 : decode cX12_init 253 = .ok (.iconst 0, 1) := by decide +kernel
theorem dX12_init_254 : decode cX12_init 254 = .ok (.istore_n 1, 1) := by decide +kernel
theorem dX12_init_255 : decode cX12_init 255 = .ok (.iload_n 1, 1) := by decide +kernel
theorem dX12_init_256 : decode cX12_init 256 = .ok (.bipush 90, 2) := by decide +kernel
theorem dX12_init_258 : decode cX12_init 258 = .ok (.if_icmp .ge 16, 3) := by decide +kernel
theorem dX12_init_261 : decode cX12_init 261 = .ok (.aload_n 0, 1) := by decide +kernel
theorem dX12_init_262 : decode cX12_init 262 = .ok (.iload_n 1, 1) := by decide +kernel
theorem dX12_init_263 : decode cX12_init 263 = .ok (.lconst 0, 1) := by decide +kernel
theorem dX12_init_264 : decode cX12_init 264 = .ok (.lconst 1, 1) := by decide +kernel
theorem dX12_init_265 : decode cX12_init 265 = .ok (.invokevirtual 108, 3) := by decide +kernel
theorem dX12_init_268 : decode cX12_init 268 = .ok (.iinc 1 1, 3) := by decide +kernel
theorem dX12_init_271 : decode cX12_init 271 = .ok (.goto (-16), 3) := by decide +kernel
theorem dX12_init_274 : decode cX12_init 274 = .ok (.return_, 1) := by decide +kernel
theorem wC_168 : ((Jvm.Cond.methodLink "QueuewardModel" (1 : Nat) ({ cls := "java/lang/Object", name := "<init>", desc := "()V" } : Jvm.MethodName)) : Cond) ∈ LW := LW_mem (lw_in7 _ (List.mem_of_getElem? (i := 73) (by decide +kernel))) rfl
theorem wC_169 : ((Jvm.Cond.fieldLink "QueuewardModel" (7 : Nat) "QueuewardModel" "tape" "[I") : Cond) ∈ LW := LW_mem (lw_in7 _ (List.mem_of_getElem? (i := 115) (by decide +kernel))) rfl
theorem wC_170 : ((Jvm.Cond.fieldLink "QueuewardModel" (13 : Nat) "QueuewardModel" "job" "[I") : Cond) ∈ LW := LW_mem (lw_in7 _ (List.mem_of_getElem? (i := 117) (by decide +kernel))) rfl
theorem wC_171 : ((Jvm.Cond.fieldLink "QueuewardModel" (16 : Nat) "QueuewardModel" "wasJob" "[I") : Cond) ∈ LW := LW_mem (lw_in7 _ (List.mem_of_getElem? (i := 118) (by decide +kernel))) rfl
theorem wC_172 : ((Jvm.Cond.fieldLink "QueuewardModel" (19 : Nat) "QueuewardModel" "wasMany" "[I") : Cond) ∈ LW := LW_mem (lw_in7 _ (List.mem_of_getElem? (i := 119) (by decide +kernel))) rfl
theorem wC_173 : ((Jvm.Cond.fieldLink "QueuewardModel" (22 : Nat) "QueuewardModel" "servers" "I") : Cond) ∈ LW := LW_mem (lw_in7 _ (List.mem_of_getElem? (i := 122) (by decide +kernel))) rfl
theorem wC_174 : ((Jvm.Cond.fieldLink "QueuewardModel" (26 : Nat) "QueuewardModel" "room" "I") : Cond) ∈ LW := LW_mem (lw_in7 _ (List.mem_of_getElem? (i := 124) (by decide +kernel))) rfl
theorem wC_175 : ((Jvm.Cond.fieldLink "QueuewardModel" (29 : Nat) "QueuewardModel" "patience" "I") : Cond) ∈ LW := LW_mem (lw_in7 _ (List.mem_of_getElem? (i := 125) (by decide +kernel))) rfl
theorem wC_176 : ((Jvm.Cond.fieldLink "QueuewardModel" (32 : Nat) "QueuewardModel" "parts" "[I") : Cond) ∈ LW := LW_mem (lw_in7 _ (List.mem_of_getElem? (i := 126) (by decide +kernel))) rfl
theorem wC_177 : ((Jvm.Cond.fieldLink "QueuewardModel" (35 : Nat) "QueuewardModel" "comes" "[I") : Cond) ∈ LW := LW_mem (lw_in7 _ (List.mem_of_getElem? (i := 127) (by decide +kernel))) rfl
theorem wC_178 : ((Jvm.Cond.fieldLink "QueuewardModel" (38 : Nat) "QueuewardModel" "serves" "[I") : Cond) ∈ LW := LW_mem (lw_in7 _ (List.mem_of_getElem? (i := 128) (by decide +kernel))) rfl
theorem wC_179 : ((Jvm.Cond.fieldLink "QueuewardModel" (41 : Nat) "QueuewardModel" "percent" "[I") : Cond) ∈ LW := LW_mem (lw_in7 _ (List.mem_of_getElem? (i := 129) (by decide +kernel))) rfl
theorem wC_180 : ((Jvm.Cond.fieldLink "QueuewardModel" (44 : Nat) "QueuewardModel" "states" "I") : Cond) ∈ LW := LW_mem (lw_in7 _ (List.mem_of_getElem? (i := 130) (by decide +kernel))) rfl
theorem wC_181 : ((Jvm.Cond.fieldLink "QueuewardModel" (47 : Nat) "QueuewardModel" "base" "I") : Cond) ∈ LW := LW_mem (lw_in7 _ (List.mem_of_getElem? (i := 131) (by decide +kernel))) rfl
theorem wC_182 : ((Jvm.Cond.fieldLink "QueuewardModel" (50 : Nat) "QueuewardModel" "nodes" "I") : Cond) ∈ LW := LW_mem (lw_in7 _ (List.mem_of_getElem? (i := 132) (by decide +kernel))) rfl
theorem wC_183 : ((Jvm.Cond.fieldLink "QueuewardModel" (53 : Nat) "QueuewardModel" "latency" "[I") : Cond) ∈ LW := LW_mem (lw_in7 _ (List.mem_of_getElem? (i := 133) (by decide +kernel))) rfl
theorem wC_184 : ((Jvm.Cond.fieldLink "QueuewardModel" (56 : Nat) "QueuewardModel" "serverAbove" "[I") : Cond) ∈ LW := LW_mem (lw_in7 _ (List.mem_of_getElem? (i := 134) (by decide +kernel))) rfl
theorem wC_185 : ((Jvm.Cond.fieldLink "QueuewardModel" (59 : Nat) "QueuewardModel" "serverBelow" "[I") : Cond) ∈ LW := LW_mem (lw_in7 _ (List.mem_of_getElem? (i := 135) (by decide +kernel))) rfl
theorem wC_186 : ((Jvm.Cond.fieldLink "QueuewardModel" (62 : Nat) "QueuewardModel" "constant" "[I") : Cond) ∈ LW := LW_mem (lw_in7 _ (List.mem_of_getElem? (i := 136) (by decide +kernel))) rfl
theorem wC_187 : ((Jvm.Cond.fieldLink "QueuewardModel" (65 : Nat) "QueuewardModel" "slope" "[I") : Cond) ∈ LW := LW_mem (lw_in7 _ (List.mem_of_getElem? (i := 137) (by decide +kernel))) rfl
theorem wC_188 : ((Jvm.Cond.fieldLink "QueuewardModel" (68 : Nat) "QueuewardModel" "below" "I") : Cond) ∈ LW := LW_mem (lw_in7 _ (List.mem_of_getElem? (i := 140) (by decide +kernel))) rfl
theorem wC_189 : ((Jvm.Cond.constant "QueuewardModel" (71 : Nat) (60000 : Int32)) : Cond) ∈ LW := LW_mem (lw_in7 _ (List.mem_of_getElem? (i := 74) (by decide +kernel))) rfl
theorem wC_190 : ((Jvm.Cond.fieldLink "QueuewardModel" (72 : Nat) "QueuewardModel" "cell" "[I") : Cond) ∈ LW := LW_mem (lw_in7 _ (List.mem_of_getElem? (i := 142) (by decide +kernel))) rfl
theorem wC_191 : ((Jvm.Cond.fieldLink "QueuewardModel" (75 : Nat) "QueuewardModel" "size" "[I") : Cond) ∈ LW := LW_mem (lw_in7 _ (List.mem_of_getElem? (i := 143) (by decide +kernel))) rfl
theorem wC_192 : ((Jvm.Cond.fieldLink "QueuewardModel" (78 : Nat) "QueuewardModel" "sign" "[I") : Cond) ∈ LW := LW_mem (lw_in7 _ (List.mem_of_getElem? (i := 144) (by decide +kernel))) rfl
theorem wC_193 : ((Jvm.Cond.fieldLink "QueuewardModel" (81 : Nat) "QueuewardModel" "taken" "[I") : Cond) ∈ LW := LW_mem (lw_in7 _ (List.mem_of_getElem? (i := 147) (by decide +kernel))) rfl
theorem wC_194 : ((Jvm.Cond.fieldLink "QueuewardModel" (84 : Nat) "QueuewardModel" "state" "[I") : Cond) ∈ LW := LW_mem (lw_in7 _ (List.mem_of_getElem? (i := 148) (by decide +kernel))) rfl
theorem wC_195 : ((Jvm.Cond.fieldLink "QueuewardModel" (87 : Nat) "QueuewardModel" "rest" "[I") : Cond) ∈ LW := LW_mem (lw_in7 _ (List.mem_of_getElem? (i := 149) (by decide +kernel))) rfl
theorem wC_196 : ((Jvm.Cond.fieldLink "QueuewardModel" (90 : Nat) "QueuewardModel" "first" "[I") : Cond) ∈ LW := LW_mem (lw_in7 _ (List.mem_of_getElem? (i := 150) (by decide +kernel))) rfl
theorem wC_197 : ((Jvm.Cond.fieldLink "QueuewardModel" (93 : Nat) "QueuewardModel" "end" "[I") : Cond) ∈ LW := LW_mem (lw_in7 _ (List.mem_of_getElem? (i := 151) (by decide +kernel))) rfl
theorem wC_198 : ((Jvm.Cond.fieldLink "QueuewardModel" (96 : Nat) "QueuewardModel" "waiting" "[I") : Cond) ∈ LW := LW_mem (lw_in7 _ (List.mem_of_getElem? (i := 152) (by decide +kernel))) rfl
theorem wC_199 : ((Jvm.Cond.fieldLink "QueuewardModel" (99 : Nat) "QueuewardModel" "number" "[I") : Cond) ∈ LW := LW_mem (lw_in7 _ (List.mem_of_getElem? (i := 153) (by decide +kernel))) rfl
theorem wC_200 : ((Jvm.Cond.fieldLink "QueuewardModel" (102 : Nat) "QueuewardModel" "unknown" "[I") : Cond) ∈ LW := LW_mem (lw_in7 _ (List.mem_of_getElem? (i := 157) (by decide +kernel))) rfl
theorem wC_201 : ((Jvm.Cond.fieldLink "QueuewardModel" (105 : Nat) "QueuewardModel" "choice" "[I") : Cond) ∈ LW := LW_mem (lw_in7 _ (List.mem_of_getElem? (i := 158) (by decide +kernel))) rfl
theorem wC_202 : ((Jvm.Cond.methodLink "QueuewardModel" (108 : Nat) ({ cls := "QueuewardModel", name := "sets", desc := "(IJJ)V" } : Jvm.MethodName)) : Cond) ∈ LW := LW_mem (lw_in7 _ (List.mem_of_getElem? (i := 75) (by decide +kernel))) rfl
theorem wC_203 : ((Jvm.Cond.instanceMethod ({ cls := "QueuewardModel", name := "sets", desc := "(IJJ)V" } : Jvm.MethodName)) : Cond) ∈ LW := LW_mem (lw_in7 _ (List.mem_of_getElem? (i := 77) (by decide +kernel))) rfl
theorem wC_204 : (.selects "QueuewardModel" ⟨"QueuewardModel", "sets", "(IJJ)V"⟩ ⟨"QueuewardModel", "sets", "(IJJ)V"⟩ : Cond) ∈ LW := LW_mem (lw_inP (List.mem_of_getElem? (i := 53) (by decide +kernel))) rfl
theorem wC_205 : ((Jvm.Cond.initialized "QueuewardModel") : Cond) ∈ LW := LW_mem (lw_in1 _ (List.mem_of_getElem? (i := 15) (by decide +kernel))) rfl
theorem wC_206 : ((Jvm.Cond.code ({ cls := "QueuewardModel", name := "sets", desc := "(IJJ)V" } : Jvm.MethodName) prog_14_method_18_code (6 : Nat) (Option.none : Option Jvm.ClassFile.FieldType)) : Cond) ∈ LW := LW_mem (lw_in7 _ (List.mem_of_getElem? (i := 78) (by decide +kernel))) rfl
set_option maxHeartbeats 4000000 in
set_option maxRecDepth 100000 in
theorem x12_loop {p : Program} {l : Launch} {e : Env} {R : Room} {s : State} {m : MethodId} {args : Array Value} {below : List Frame} {meth : Method} {c : Code} {D : va_G} {cA : Nat → ClassId} {sg : Nat → Nat} {B cells slots : Nat} (htr : l.stackTraces = false) (hx : p.tables.exec = Jvm.exec) (hb : c.code = cX12_init) (hr : meth.sig.returnType = none) (hml : c.maxLocals = 2) (hown : s.vm.findClass RX12 = some m.cls) (hts : ∀ w ∈ LW, w.before args s = true) (hfix : wFix sg cA D B s) (hsz : s.heap.size ≤ B + 176) (hlocks : meth.locks = false) (hR : 14 ≤ R.frames ∧ 600 ≤ R.locals ∧ cells ≤ R.cells ∧ slots ≤ R.slots) :
    ∀ (q k : Nat) (M : Mem) (H : Heap) (locs : List Loc) (ls : Array Slot), k + q = 90 → FM [] [] (List.range 90) M1 M → (∀ f, f < k → FQ M f 0) → va_P D gCl (wWs (rho B) cA M) H → B + 176 ≤ H.size → va_S (Al B) s.heap H locs → lv_has ls 2 [(1, .int (Int32.ofInt (k : Int))), (0, .ref (B + 150))] →
      W p l e R s m args below meth c H locs cells slots (MQ below (va_Qv (fun M : Mem => Iv M) (fun M t => wP0 (rho B) cA D B M t.heap) (Al B)) args s cells slots (Al B)) (F0 m 255 ls []) := by
  intro q
  induction q with
  | zero =>
    intro k M H locs ls hk hf hq hP hz hS hl
    have hk : k = 90 := by omega
    subst hk
    refine lv_iload_n hx hb dX12_init_255 rfl (lv_at hl 0 rfl) ?_
    refine lv_bipush (v := 90) hx hb dX12_init_256 (by decide) ?_
    refine lv_icmp_ge (tgt := 274) hx hb dX12_init_258 (by decide) (fun _ => ?_) (fun h => absurd (by decide) h)
    exact W.vret hx hb hr (fun t ht hW => ⟨⟨M, rfl, iv_first hf hq, (by rw [ht]; exact hP), first_D, (by rw [ht]; exact hz)⟩, hS.F ht⟩) hS.2.2 dX12_init_274
  | succ q ih =>
    intro k M H locs ls hk hf hq hP hz hS hl
    refine lv_iload_n hx hb dX12_init_255 rfl (lv_at hl 0 rfl) ?_
    refine lv_bipush (v := Int32.ofInt 90) hx hb dX12_init_256 (by decide) ?_
    refine w_icmp hx hb (x := (k : Int)) (y := 90) ⟨by omega, by omega⟩ ⟨by omega, by omega⟩ (cn := .ge) (tgt := 274) dX12_init_258 (by decide) (fun h => absurd (show (90 : Int) ≤ (k : Int) from h) (by omega)) (fun _ => ?_)
    refine lv_aload_n hx hb dX12_init_261 rfl (lv_at hl 1 rfl) ?_
    refine lv_iload_n hx hb dX12_init_262 rfl (lv_at hl 0 rfl) ?_
    refine lv_lconst (v := Int64.ofInt 0) hx hb dX12_init_263 (by decide) ?_
    refine lv_lconst (v := Int64.ofInt 1) hx hb dX12_init_264 (by decide) ?_
    have hcal : cald 5 cM_sets [oM, .inl (k : Int), .inr (.inl 0), .inr (.inl 1)] M (fun r M' => ∃ v, r = .inl v ∧ FR [k] M M' ∧ FQ M' k 0) := by
      refine (s_sets (d := 0) (M := M) (i := k) (y := 1) (x := 0) (by omega) ⟨by decide, by decide⟩ (by decide) (by decide)) _ fun v M' h => ⟨v, rfl, h.1, ?_⟩
      have := h.2
      rw [Rat.zero_mkRat] at this
      exact this
    have hM := snd (ρ := rho B) (sg := sg) (cA := cA) (D := D) (sz0 := B) htr 5 cM_sets _ M _ hcal nM_sets rfl
    have hrv := va_recv hfix.1 hP (gCl_at 12 (by decide)) (wWs_ob (show wOb 175 = 12 + 1 from by decide +kernel))
    refine vx_callv (vx_runV (As := [.int (Int32.ofInt (k : Int)), .long (Int64.ofInt 0), .long (Int64.ofInt 1)]) (rest := []) ⟨hx, hb, hml, hown, hts⟩ hM (cwV 3 hts (wsV_good wC_202 wC_203 wC_204 wC_205 wC_206) rfl rfl rfl (by decide +kernel) ⟨hR.1, Nat.le_trans (Nat.le_of_ble_eq_true rfl) hR.2.1⟩) ⟨wPic_blind, hrv, fun U hU hW => ⟨rfl, (by rw [hU]; exact hP), first_D, (by rw [hU]; exact hz), hfix.warm hW (fun q q1 q2 => by rw [hU]; exact hS.2.1 q q1 (fun h => q2 ⟨h, by omega⟩))⟩⟩ rfl rfl hl.1 rfl (lv_room (Nat.le_of_ble_eq_true rfl)) dX12_init_265 ⟨hR.2.2.1, hR.2.2.2⟩) hS (fun q _ h => h.1) (fun q h => h.1) (fun q _ h => h.1) (fun E ce q9 u t H1 locs1 ht hal hp hB => by obtain ⟨v, hv, -⟩ := hp; cases hv) (fun u tt H1 locs1 ht hal hp hB hz1 hfr hS => ?_)
    obtain ⟨v, -, hfr1, hq1⟩ := hp
    rw [ht] at hB
    refine lv_iinc (v := Int32.ofInt ((k + 1 : Nat) : Int)) (lv' := [(1, .int (Int32.ofInt ((k + 1 : Nat) : Int))), (0, .ref (B + 150))]) hx hb dX12_init_268 hl (k := 0) rfl (by rw [Int.natCast_add, Int32.ofInt_add]; rfl) (by decide) rfl (fun ls hl => ?_)
    refine lv_goto (tgt := 255) hx hb dX12_init_271 (by decide) ?_
    refine ih (k + 1) u H1 locs1 ls (by omega) (hf.tr (hfr1.fm.mono (fun _ h => h) (fun _ h => h) (fun a ha => ?_))) (fun f hf1 => ?_) hB.1 (Nat.le_trans hz hz1) hS hl
    · simp only [List.mem_cons, List.not_mem_nil, or_false] at ha
      subst ha
      exact List.mem_range.mpr (by omega)
    · by_cases e : f = k
      · subst e; exact hq1
      · exact (hq f (by omega)).keptM hfr1.fm (by omega) (by simp; exact e)
