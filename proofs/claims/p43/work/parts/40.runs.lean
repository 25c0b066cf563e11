section RNK10
theorem rc_1_1_0 : rt_chk tf_128 1 1 0 1 931 299 = true := by decide +kernel
theorem rb_1_1_0 : rt_chk tf_127 1 1 0 0 299 931 = true := by decide +kernel
theorem rc_2_1_0 : rt_chk tf_128 2 1 0 1 931 299 = true := by decide +kernel
theorem rb_2_1_0 : rt_chk tf_127 2 1 0 0 299 931 = true := by decide +kernel
theorem rc_3_1_0 : rt_chk tf_128 3 1 0 1 931 299 = true := by decide +kernel
theorem rb_3_1_0 : rt_chk tf_127 3 1 0 0 299 931 = true := by decide +kernel
theorem rc_4_1_0 : rt_chk tf_128 4 1 0 1 931 299 = true := by decide +kernel
theorem rb_4_1_0 : rt_chk tf_127 4 1 0 0 299 931 = true := by decide +kernel
theorem rc_5_1_0 : rt_chk tf_128 5 1 0 1 931 299 = true := by decide +kernel
theorem rb_5_1_0 : rt_chk tf_127 5 1 0 0 299 931 = true := by decide +kernel
theorem rc_6_1_0 : rt_chk tf_128 6 1 0 1 931 299 = true := by decide +kernel
theorem rb_6_1_0 : rt_chk tf_127 6 1 0 0 299 931 = true := by decide +kernel
end RNK10
