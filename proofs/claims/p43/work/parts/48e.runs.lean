section RNFI3c
theorem ra_1_3 : ra_chk 1 3 = true := by decide +kernel
theorem ra_2_3 : ra_chk 2 3 = true := by decide +kernel
theorem ra_3_3 : ra_chk 3 3 = true := by decide +kernel
theorem ra_4_3 : ra_chk 4 3 = true := by decide +kernel
theorem ra_5_3 : ra_chk 5 3 = true := by decide +kernel
theorem ra_6_3 : ra_chk 6 3 = true := by decide +kernel
end RNFI3c
