/-! The law's checks, 15 (by program). -/
theorem kW_isTape_0 : chkLL linfs wlW_isTape cL_isTape 11 (Option.some FieldType.boolean) nW_isTape.2.2.2.2.2.2.1 0 ((gW_isTape).take 70) ((pW_isTape).take 70) = true := by decide +kernel
theorem kW_isTape_1 : chkLL linfs wlW_isTape cL_isTape 11 (Option.some FieldType.boolean) nW_isTape.2.2.2.2.2.2.1 70 (((gW_isTape).drop 70).take 70) (((pW_isTape).drop 70).take 70) = true := by decide +kernel
theorem kW_isTape_2 : chkLL linfs wlW_isTape cL_isTape 11 (Option.some FieldType.boolean) nW_isTape.2.2.2.2.2.2.1 140 (((gW_isTape).drop 140).take 70) (((pW_isTape).drop 140).take 70) = true := by decide +kernel
theorem kW_isTape_3 : chkLL linfs wlW_isTape cL_isTape 11 (Option.some FieldType.boolean) nW_isTape.2.2.2.2.2.2.1 210 (((gW_isTape).drop 210).take 70) (((pW_isTape).drop 210).take 70) = true := by decide +kernel
