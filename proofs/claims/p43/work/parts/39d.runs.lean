section RNFI3d
theorem ra_1_4 : ra_chk 1 4 = true := by decide +kernel
theorem ra_2_4 : ra_chk 2 4 = true := by decide +kernel
theorem ra_3_4 : ra_chk 3 4 = true := by decide +kernel
theorem ra_4_4 : ra_chk 4 4 = true := by decide +kernel
theorem ra_5_4 : ra_chk 5 4 = true := by decide +kernel
theorem ra_6_4 : ra_chk 6 4 = true := by decide +kernel
end RNFI3d
