section RNFI3b
theorem ra_1_2 : ra_chk 1 2 = true := by decide +kernel
theorem ra_2_2 : ra_chk 2 2 = true := by decide +kernel
theorem ra_3_2 : ra_chk 3 2 = true := by decide +kernel
theorem ra_4_2 : ra_chk 4 2 = true := by decide +kernel
theorem ra_5_2 : ra_chk 5 2 = true := by decide +kernel
theorem ra_6_2 : ra_chk 6 2 = true := by decide +kernel
end RNFI3b
