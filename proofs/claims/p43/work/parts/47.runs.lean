section RNK41
theorem rc_1_4_1 : rt_chk tf_128 1 4 1 1 931 299 = true := by decide +kernel
theorem rb_1_4_1 : rt_chk tf_127 1 4 1 0 299 931 = true := by decide +kernel
theorem rc_2_4_1 : rt_chk tf_128 2 4 1 1 931 299 = true := by decide +kernel
theorem rb_2_4_1 : rt_chk tf_127 2 4 1 0 299 931 = true := by decide +kernel
theorem rc_3_4_1 : rt_chk tf_128 3 4 1 1 931 299 = true := by decide +kernel
theorem rp_3_4_1_0 : rp_chk 3 4 1 0 = true := by decide +kernel
theorem rp_3_4_1_1 : rp_chk 3 4 1 1 = true := by decide +kernel
theorem rp_3_4_1_2 : rp_chk 3 4 1 2 = true := by decide +kernel
theorem rp_3_4_1_3 : rp_chk 3 4 1 3 = true := by decide +kernel
theorem rp_3_4_1_4 : rp_chk 3 4 1 4 = true := by decide +kernel
theorem rp_3_4_1_5 : rp_chk 3 4 1 5 = true := by decide +kernel
theorem rc_4_4_1 : rt_chk tf_128 4 4 1 1 931 299 = true := by decide +kernel
theorem rp_4_4_1_0 : rp_chk 4 4 1 0 = true := by decide +kernel
theorem rp_4_4_1_1 : rp_chk 4 4 1 1 = true := by decide +kernel
theorem rp_4_4_1_2 : rp_chk 4 4 1 2 = true := by decide +kernel
theorem rp_4_4_1_3 : rp_chk 4 4 1 3 = true := by decide +kernel
theorem rp_4_4_1_4 : rp_chk 4 4 1 4 = true := by decide +kernel
theorem rp_4_4_1_5 : rp_chk 4 4 1 5 = true := by decide +kernel
theorem rc_5_4_1 : rt_chk tf_128 5 4 1 1 931 299 = true := by decide +kernel
theorem rp_5_4_1_0 : rp_chk 5 4 1 0 = true := by decide +kernel
theorem rp_5_4_1_1 : rp_chk 5 4 1 1 = true := by decide +kernel
theorem rp_5_4_1_2 : rp_chk 5 4 1 2 = true := by decide +kernel
theorem rp_5_4_1_3 : rp_chk 5 4 1 3 = true := by decide +kernel
theorem rp_5_4_1_4 : rp_chk 5 4 1 4 = true := by decide +kernel
theorem rp_5_4_1_5 : rp_chk 5 4 1 5 = true := by decide +kernel
theorem rc_6_4_1 : rt_chk tf_128 6 4 1 1 931 299 = true := by decide +kernel
theorem rp_6_4_1_0 : rp_chk 6 4 1 0 = true := by decide +kernel
theorem rp_6_4_1_1 : rp_chk 6 4 1 1 = true := by decide +kernel
theorem rp_6_4_1_2 : rp_chk 6 4 1 2 = true := by decide +kernel
theorem rp_6_4_1_3 : rp_chk 6 4 1 3 = true := by decide +kernel
theorem rp_6_4_1_4 : rp_chk 6 4 1 4 = true := by decide +kernel
theorem rp_6_4_1_5 : rp_chk 6 4 1 5 = true := by decide +kernel
end RNK41
