section RNK40
theorem rc_1_4_0 : rt_chk tf_128 1 4 0 1 931 299 = true := by decide +kernel
theorem rb_1_4_0 : rt_chk tf_127 1 4 0 0 299 931 = true := by decide +kernel
theorem rc_2_4_0 : rt_chk tf_128 2 4 0 1 931 299 = true := by decide +kernel
theorem rb_2_4_0 : rt_chk tf_127 2 4 0 0 299 931 = true := by decide +kernel
theorem rc_3_4_0 : rt_chk tf_128 3 4 0 1 931 299 = true := by decide +kernel
theorem rb_3_4_0 : rt_chk tf_127 3 4 0 0 299 931 = true := by decide +kernel
theorem rc_4_4_0 : rt_chk tf_128 4 4 0 1 931 299 = true := by decide +kernel
theorem rb_4_4_0 : rt_chk tf_127 4 4 0 0 299 931 = true := by decide +kernel
theorem rc_5_4_0 : rt_chk tf_128 5 4 0 1 931 299 = true := by decide +kernel
theorem rp_5_4_0_0 : rp_chk 5 4 0 0 = true := by decide +kernel
theorem rp_5_4_0_1 : rp_chk 5 4 0 1 = true := by decide +kernel
theorem rp_5_4_0_2 : rp_chk 5 4 0 2 = true := by decide +kernel
theorem rp_5_4_0_3 : rp_chk 5 4 0 3 = true := by decide +kernel
theorem rp_5_4_0_4 : rp_chk 5 4 0 4 = true := by decide +kernel
theorem rp_5_4_0_5 : rp_chk 5 4 0 5 = true := by decide +kernel
theorem rc_6_4_0 : rt_chk tf_128 6 4 0 1 931 299 = true := by decide +kernel
theorem rp_6_4_0_0 : rp_chk 6 4 0 0 = true := by decide +kernel
theorem rp_6_4_0_1 : rp_chk 6 4 0 1 = true := by decide +kernel
theorem rp_6_4_0_2 : rp_chk 6 4 0 2 = true := by decide +kernel
theorem rp_6_4_0_3 : rp_chk 6 4 0 3 = true := by decide +kernel
theorem rp_6_4_0_4 : rp_chk 6 4 0 4 = true := by decide +kernel
theorem rp_6_4_0_5 : rp_chk 6 4 0 5 = true := by decide +kernel
end RNK40
