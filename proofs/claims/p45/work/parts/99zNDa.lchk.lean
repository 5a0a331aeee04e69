/-! The law's checks, 10 (by program). -/
theorem kW_isLost_1 : chkLL linfs wlW_isLost cL_isLost 11 (Option.some FieldType.boolean) nW_isLost.2.2.2.2.2.2.1 70 ((gW_isLost).drop 70) ((pW_isLost).drop 70) = true := by decide +kernel
theorem kW_isLost : chkLL linfs wlW_isLost cL_isLost 11 (Option.some FieldType.boolean) nW_isLost.2.2.2.2.2.2.1 0 (gW_isLost) (pW_isLost) = true := chkLL_cut 70 0 _ _ kW_isLost_0 kW_isLost_1
theorem kW_solves_0 : chkLL linfs wlW_solves cL_solves 8 (Option.some (FieldType.array (FieldType.array FieldType.long))) nW_solves.2.2.2.2.2.2.1 0 ((gW_solves).take 70) ((pW_solves).take 70) = true := by decide +kernel
theorem kW_solves_1 : chkLL linfs wlW_solves cL_solves 8 (Option.some (FieldType.array (FieldType.array FieldType.long))) nW_solves.2.2.2.2.2.2.1 70 ((gW_solves).drop 70) ((pW_solves).drop 70) = true := by decide +kernel
theorem kW_solves : chkLL linfs wlW_solves cL_solves 8 (Option.some (FieldType.array (FieldType.array FieldType.long))) nW_solves.2.2.2.2.2.2.1 0 (gW_solves) (pW_solves) = true := chkLL_cut 70 0 _ _ kW_solves_0 kW_solves_1
theorem kW_flows_0 : chkLL linfs wlW_flows cL_flows 8 (Option.some (FieldType.array (FieldType.array FieldType.long))) nW_flows.2.2.2.2.2.2.1 0 ((gW_flows).take 70) ((pW_flows).take 70) = true := by decide +kernel
theorem kW_flows_1 : chkLL linfs wlW_flows cL_flows 8 (Option.some (FieldType.array (FieldType.array FieldType.long))) nW_flows.2.2.2.2.2.2.1 70 ((gW_flows).drop 70) ((pW_flows).drop 70) = true := by decide +kernel
theorem kW_flows : chkLL linfs wlW_flows cL_flows 8 (Option.some (FieldType.array (FieldType.array FieldType.long))) nW_flows.2.2.2.2.2.2.1 0 (gW_flows) (pW_flows) = true := chkLL_cut 70 0 _ _ kW_flows_0 kW_flows_1
