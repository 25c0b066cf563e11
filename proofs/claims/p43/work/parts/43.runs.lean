section RNK21
theorem rc_1_2_1 : rt_chk tf_128 1 2 1 1 931 299 = true := by decide +kernel
theorem rb_1_2_1 : rt_chk tf_127 1 2 1 0 299 931 = true := by decide +kernel
theorem rc_2_2_1 : rt_chk tf_128 2 2 1 1 931 299 = true := by decide +kernel
theorem rb_2_2_1 : rt_chk tf_127 2 2 1 0 299 931 = true := by decide +kernel
theorem rc_3_2_1 : rt_chk tf_128 3 2 1 1 931 299 = true := by decide +kernel
theorem rb_3_2_1 : rt_chk tf_127 3 2 1 0 299 931 = true := by decide +kernel
theorem rc_4_2_1 : rt_chk tf_128 4 2 1 1 931 299 = true := by decide +kernel
theorem rb_4_2_1 : rt_chk tf_127 4 2 1 0 299 931 = true := by decide +kernel
theorem rc_5_2_1 : rt_chk tf_128 5 2 1 1 931 299 = true := by decide +kernel
theorem rb_5_2_1 : rt_chk tf_127 5 2 1 0 299 931 = true := by decide +kernel
theorem rc_6_2_1 : rt_chk tf_128 6 2 1 1 931 299 = true := by decide +kernel
theorem rb_6_2_1 : rt_chk tf_127 6 2 1 0 299 931 = true := by decide +kernel
end RNK21
