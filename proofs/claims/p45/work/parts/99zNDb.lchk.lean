/-! The law's checks, 11 (by program). -/
theorem kW_isNet_0 : chkLL linfs wlW_isNet cL_isNet 18 (Option.some FieldType.boolean) nW_isNet.2.2.2.2.2.2.1 0 ((gW_isNet).take 70) ((pW_isNet).take 70) = true := by decide +kernel
theorem kW_isNet_1 : chkLL linfs wlW_isNet cL_isNet 18 (Option.some FieldType.boolean) nW_isNet.2.2.2.2.2.2.1 70 (((gW_isNet).drop 70).take 70) (((pW_isNet).drop 70).take 70) = true := by decide +kernel
theorem kW_isNet_2 : chkLL linfs wlW_isNet cL_isNet 18 (Option.some FieldType.boolean) nW_isNet.2.2.2.2.2.2.1 140 (((gW_isNet).drop 140).take 70) (((pW_isNet).drop 140).take 70) = true := by decide +kernel
theorem kW_isNet_3 : chkLL linfs wlW_isNet cL_isNet 18 (Option.some FieldType.boolean) nW_isNet.2.2.2.2.2.2.1 210 (((gW_isNet).drop 210).take 70) (((pW_isNet).drop 210).take 70) = true := by decide +kernel
