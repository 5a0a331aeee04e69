/-! The law's checks, 5 (by program). -/
theorem kW_isPlay_0 : chkLL linfs wlW_isPlay cL_isPlay 21 (Option.some FieldType.boolean) nW_isPlay.2.2.2.2.2.2.1 0 ((gW_isPlay).take 70) ((pW_isPlay).take 70) = true := by decide +kernel
theorem kW_isPlay_1 : chkLL linfs wlW_isPlay cL_isPlay 21 (Option.some FieldType.boolean) nW_isPlay.2.2.2.2.2.2.1 70 (((gW_isPlay).drop 70).take 70) (((pW_isPlay).drop 70).take 70) = true := by decide +kernel
theorem kW_isPlay_2 : chkLL linfs wlW_isPlay cL_isPlay 21 (Option.some FieldType.boolean) nW_isPlay.2.2.2.2.2.2.1 140 (((gW_isPlay).drop 140).take 70) (((pW_isPlay).drop 140).take 70) = true := by decide +kernel
theorem kW_isPlay_3 : chkLL linfs wlW_isPlay cL_isPlay 21 (Option.some FieldType.boolean) nW_isPlay.2.2.2.2.2.2.1 210 (((gW_isPlay).drop 210).take 70) (((pW_isPlay).drop 210).take 70) = true := by decide +kernel
