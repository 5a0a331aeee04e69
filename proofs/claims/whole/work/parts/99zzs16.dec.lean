/-! The law's instructions (by program). -/
theorem dL_law_2724 : decode cL_law 2724 = .ok (.if_icmp .eq 5, 3) := by decide +kernel
theorem dL_law_2729 : decode cL_law 2729 = .ok (.iinc 4 5, 3) := by decide +kernel
theorem dL_law_2732 : decode cL_law 2732 = .ok (.goto (-2709), 3) := by decide +kernel
theorem dL_law_2735 : decode cL_law 2735 = .ok (.iconst 1, 1) := by decide +kernel
theorem dL_law_2736 : decode cL_law 2736 = .ok (.ireturn, 1) := by decide +kernel
