/-! The law's checks, 7 (by program). -/
theorem kW_isChain_1 : chkLL linfs wlW_isChain cL_isChain 12 (Option.some FieldType.boolean) nW_isChain.2.2.2.2.2.2.1 70 (((gW_isChain).drop 70).take 70) (((pW_isChain).drop 70).take 70) = true := by decide +kernel
theorem kW_isChain_2 : chkLL linfs wlW_isChain cL_isChain 12 (Option.some FieldType.boolean) nW_isChain.2.2.2.2.2.2.1 140 (((gW_isChain).drop 140).take 70) (((pW_isChain).drop 140).take 70) = true := by decide +kernel
theorem kW_isChain_3 : chkLL linfs wlW_isChain cL_isChain 12 (Option.some FieldType.boolean) nW_isChain.2.2.2.2.2.2.1 210 (((gW_isChain).drop 210).take 70) (((pW_isChain).drop 210).take 70) = true := by decide +kernel
theorem kW_isChain_4 : chkLL linfs wlW_isChain cL_isChain 12 (Option.some FieldType.boolean) nW_isChain.2.2.2.2.2.2.1 280 (((gW_isChain).drop 280).take 70) (((pW_isChain).drop 280).take 70) = true := by decide +kernel
