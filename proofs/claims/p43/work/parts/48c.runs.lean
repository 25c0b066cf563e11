section RNFI3a
theorem ra_run0 : ra_chk0 = true := by decide +kernel
theorem ra_1_1 : ra_chk 1 1 = true := by decide +kernel
theorem ra_2_1 : ra_chk 2 1 = true := by decide +kernel
theorem ra_3_1 : ra_chk 3 1 = true := by decide +kernel
theorem ra_4_1 : ra_chk 4 1 = true := by decide +kernel
theorem ra_5_1 : ra_chk 5 1 = true := by decide +kernel
theorem ra_6_1 : ra_chk 6 1 = true := by decide +kernel
end RNFI3a
