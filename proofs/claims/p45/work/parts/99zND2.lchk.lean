/-! The law's checks, 2 (by program). -/
theorem kW_puts : chkLL linfs wlW_puts cL_puts 6 (Option.some FieldType.int) nW_puts.2.2.2.2.2.2.1 0 (gW_puts) (pW_puts) = true := by decide +kernel
theorem kW_isEnvelope_0 : chkLL linfs wlW_isEnvelope cL_isEnvelope 16 (Option.some FieldType.boolean) nW_isEnvelope.2.2.2.2.2.2.1 0 ((gW_isEnvelope).take 70) ((pW_isEnvelope).take 70) = true := by decide +kernel
theorem kW_isEnvelope_1 : chkLL linfs wlW_isEnvelope cL_isEnvelope 16 (Option.some FieldType.boolean) nW_isEnvelope.2.2.2.2.2.2.1 70 (((gW_isEnvelope).drop 70).take 70) (((pW_isEnvelope).drop 70).take 70) = true := by decide +kernel
theorem kW_isEnvelope_2 : chkLL linfs wlW_isEnvelope cL_isEnvelope 16 (Option.some FieldType.boolean) nW_isEnvelope.2.2.2.2.2.2.1 140 (((gW_isEnvelope).drop 140).take 70) (((pW_isEnvelope).drop 140).take 70) = true := by decide +kernel
