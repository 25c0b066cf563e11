section RNK31
theorem rc_1_3_1 : rt_chk tf_128 1 3 1 1 931 299 = true := by decide +kernel
theorem rb_1_3_1 : rt_chk tf_127 1 3 1 0 299 931 = true := by decide +kernel
theorem rc_2_3_1 : rt_chk tf_128 2 3 1 1 931 299 = true := by decide +kernel
theorem rb_2_3_1 : rt_chk tf_127 2 3 1 0 299 931 = true := by decide +kernel
theorem rc_3_3_1 : rt_chk tf_128 3 3 1 1 931 299 = true := by decide +kernel
theorem rb_3_3_1 : rt_chk tf_127 3 3 1 0 299 931 = true := by decide +kernel
theorem rc_4_3_1 : rt_chk tf_128 4 3 1 1 931 299 = true := by decide +kernel
theorem rb_4_3_1 : rt_chk tf_127 4 3 1 0 299 931 = true := by decide +kernel
theorem rc_5_3_1 : rt_chk tf_128 5 3 1 1 931 299 = true := by decide +kernel
theorem rb_5_3_1 : rt_chk tf_127 5 3 1 0 299 931 = true := by decide +kernel
theorem rc_6_3_1 : rt_chk tf_128 6 3 1 1 931 299 = true := by decide +kernel
theorem rb_6_3_1 : rt_chk tf_127 6 3 1 0 299 931 = true := by decide +kernel
end RNK31
