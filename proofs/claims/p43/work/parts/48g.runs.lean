section RNFI3e
theorem ra_4_4tt : ra_c2 4 3 true true = true := by decide +kernel
theorem ra_4_4tf : ra_c2 4 3 true false = true := by decide +kernel
theorem ra_4_4ft : ra_c2 4 3 false true = true := by decide +kernel
theorem ra_4_4ff : ra_c2 4 3 false false = true := by decide +kernel
theorem ra_4_4 : ra_chk 4 4 = true := ra_c2_ok ra_4_4tt ra_4_4tf ra_4_4ft ra_4_4ff
theorem ra_5_4tt : ra_c2 5 3 true true = true := by decide +kernel
theorem ra_5_4tf : ra_c2 5 3 true false = true := by decide +kernel
theorem ra_5_4ft : ra_c2 5 3 false true = true := by decide +kernel
theorem ra_5_4ff : ra_c2 5 3 false false = true := by decide +kernel
theorem ra_5_4 : ra_chk 5 4 = true := ra_c2_ok ra_5_4tt ra_5_4tf ra_5_4ft ra_5_4ff
theorem ra_6_4tt : ra_c2 6 3 true true = true := by decide +kernel
theorem ra_6_4tf : ra_c2 6 3 true false = true := by decide +kernel
theorem ra_6_4ft : ra_c2 6 3 false true = true := by decide +kernel
theorem ra_6_4ff : ra_c2 6 3 false false = true := by decide +kernel
theorem ra_6_4 : ra_chk 6 4 = true := ra_c2_ok ra_6_4tt ra_6_4tf ra_6_4ft ra_6_4ff
end RNFI3e
