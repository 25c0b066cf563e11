section RNFI3d
theorem ra_1_4tt : ra_c2 1 3 true true = true := by decide +kernel
theorem ra_1_4tf : ra_c2 1 3 true false = true := by decide +kernel
theorem ra_1_4ft : ra_c2 1 3 false true = true := by decide +kernel
theorem ra_1_4ff : ra_c2 1 3 false false = true := by decide +kernel
theorem ra_1_4 : ra_chk 1 4 = true := ra_c2_ok ra_1_4tt ra_1_4tf ra_1_4ft ra_1_4ff
theorem ra_2_4tt : ra_c2 2 3 true true = true := by decide +kernel
theorem ra_2_4tf : ra_c2 2 3 true false = true := by decide +kernel
theorem ra_2_4ft : ra_c2 2 3 false true = true := by decide +kernel
theorem ra_2_4ff : ra_c2 2 3 false false = true := by decide +kernel
theorem ra_2_4 : ra_chk 2 4 = true := ra_c2_ok ra_2_4tt ra_2_4tf ra_2_4ft ra_2_4ff
theorem ra_3_4tt : ra_c2 3 3 true true = true := by decide +kernel
theorem ra_3_4tf : ra_c2 3 3 true false = true := by decide +kernel
theorem ra_3_4ft : ra_c2 3 3 false true = true := by decide +kernel
theorem ra_3_4ff : ra_c2 3 3 false false = true := by decide +kernel
theorem ra_3_4 : ra_chk 3 4 = true := ra_c2_ok ra_3_4tt ra_3_4tf ra_3_4ft ra_3_4ff
end RNFI3d
