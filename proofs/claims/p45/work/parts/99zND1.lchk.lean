/-! The law's checks, 1 (by program). -/
theorem kW_next : chkLL linfs wlW_next cL_next 1 (Option.some FieldType.int) nW_next.2.2.2.2.2.2.1 0 (gW_next) (pW_next) = true := by decide +kernel
theorem kW_from : chkLL linfs wlW_from cL_from 3 (Option.some FieldType.int) nW_from.2.2.2.2.2.2.1 0 (gW_from) (pW_from) = true := by decide +kernel
theorem kW_common : chkLL linfs wlW_common cL_common 4 (Option.some FieldType.long) nW_common.2.2.2.2.2.2.1 0 (gW_common) (pW_common) = true := by decide +kernel
theorem kW_of : chkLL linfs wlW_of cL_of 6 (Option.some (FieldType.array FieldType.long)) nW_of.2.2.2.2.2.2.1 0 (gW_of) (pW_of) = true := by decide +kernel
theorem kW_sum : chkLL linfs wlW_sum cL_sum 2 (Option.some (FieldType.array FieldType.long)) nW_sum.2.2.2.2.2.2.1 0 (gW_sum) (pW_sum) = true := by decide +kernel
theorem kW_times : chkLL linfs wlW_times cL_times 2 (Option.some (FieldType.array FieldType.long)) nW_times.2.2.2.2.2.2.1 0 (gW_times) (pW_times) = true := by decide +kernel
theorem kW_by : chkLL linfs wlW_by cL_by 2 (Option.some (FieldType.array FieldType.long)) nW_by.2.2.2.2.2.2.1 0 (gW_by) (pW_by) = true := by decide +kernel
theorem kW_isLike : chkLL linfs wlW_isLike cL_isLike 2 (Option.some FieldType.boolean) nW_isLike.2.2.2.2.2.2.1 0 (gW_isLike) (pW_isLike) = true := by decide +kernel
theorem kW_came : chkLL linfs wlW_came cL_came 3 (Option.some (FieldType.array FieldType.long)) nW_came.2.2.2.2.2.2.1 0 (gW_came) (pW_came) = true := by decide +kernel
theorem kW_isCame : chkLL linfs wlW_isCame cL_isCame 4 (Option.some FieldType.boolean) nW_isCame.2.2.2.2.2.2.1 0 (gW_isCame) (pW_isCame) = true := by decide +kernel
theorem kW_types : chkLL linfs wlW_types cL_types 8 (Option.some FieldType.boolean) nW_types.2.2.2.2.2.2.1 0 (gW_types) (pW_types) = true := by decide +kernel
