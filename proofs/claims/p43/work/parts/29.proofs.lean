section RNRC
theorem rp_21_0 : ∀ q ∈ rw_21_0, rn_TS MM RX7 cX7_cause 1 ([], "cause", some Jvm.ClassFile.FieldType.int) q.1 q.2 :=
  (rn_c1 (rn_st_ok (rn_aload_n (by decide +kernel : decode cX7_cause 0 = .ok (.aload_n 0, 1)) rfl)) 
  (rn_c1 (rn_st_ok (rn_getf rc_8 (by decide +kernel : decode cX7_cause 1 = .ok (.getfield 32, 3)) (by decide) aw_78 (Or.inl rfl))) 
  (rn_c1 (rn_st_ok (rn_iconst (by decide +kernel : decode cX7_cause 4 = .ok (.iconst (-1), 1)) rfl)) 
  (rn_c1 (rn_st_ok (rn_icmp (by decide +kernel : decode cX7_cause 5 = .ok (.if_icmp .ne 14, 3)) rfl)) 
  (rn_c1 (rn_nsee) 
  (rn_c1 (rn_st_ok (rn_dup (by decide +kernel : decode cX7_cause 11 = .ok (.dup, 1)))) rn_n1))))))
theorem rp_21_1 : ∀ q ∈ rw_21_1, rn_TS MM RX7 cX7_cause 1 ([], "cause", some Jvm.ClassFile.FieldType.int) q.1 q.2 :=
  (rn_c1 (rn_st_ok (rn_aload_n (by decide +kernel : decode cX7_cause 19 = .ok (.aload_n 0, 1)) rfl)) 
  (rn_c1 (rn_st_ok (rn_getf rc_8 (by decide +kernel : decode cX7_cause 20 = .ok (.getfield 32, 3)) (by decide) aw_78 (Or.inl rfl))) 
  (rn_c1 (rn_ret (by decide +kernel : decode cX7_cause 23 = .ok (.ireturn, 1)) rfl (Or.inl ⟨rfl, rfl⟩) (Or.inr (Or.inr ⟨Or.inl rfl, rfl⟩))) rn_n1)))
theorem tp_21 : ∀ row ∈ tb_21, ∀ q ∈ row, rn_TS MM RX7 cX7_cause 1 ([], "cause", some Jvm.ClassFile.FieldType.int) q.1 q.2 := (rn_c2 rp_21_0 (rn_c2 rp_21_1 rn_n2))
end RNRC
