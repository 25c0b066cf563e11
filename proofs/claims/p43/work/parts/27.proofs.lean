section RNR5
theorem rp_122_0 : ∀ q ∈ rw_122_0, rn_TS MM RX7 cX7_areUsedDomainsOn 3 ([], "areUsedDomainsOn", some Jvm.ClassFile.FieldType.boolean) q.1 q.2 :=
  (rn_c1 (rn_st_ok (rn_iconst (by decide +kernel : decode cX7_areUsedDomainsOn 0 = .ok (.iconst 0, 1)) rfl)) 
  (rn_c1 (rn_st_ok (rn_istore_n (by decide +kernel : decode cX7_areUsedDomainsOn 1 = .ok (.istore_n 1, 1)) rfl (by decide))) 
  (rn_c1 (rn_st_ok (rn_iload_n (by decide +kernel : decode cX7_areUsedDomainsOn 2 = .ok (.iload_n 1, 1)) rfl)) 
  (rn_c1 (rn_st_ok (rn_aload_n (by decide +kernel : decode cX7_areUsedDomainsOn 3 = .ok (.aload_n 0, 1)) rfl)) 
  (rn_c1 (rn_st_ok (rn_getf rc_8 (by decide +kernel : decode cX7_areUsedDomainsOn 4 = .ok (.getfield 19, 3)) (by decide) aw_71 (Or.inl rfl))) 
  (rn_c1 (rn_ca_ok (rn_siV (ci := 0) rfl (by decide +kernel : decode cX7_areUsedDomainsOn 7 = .ok (.invokevirtual 49, 3)) rfl rfl cw_1 aw_113 (rn_lc aw_110 (rn_lc aw_111 (rn_lc aw_112 (rn_l1 aw_4))))) rfl rfl (rn_h0n rfl) rn_h0t) 
  (rn_c1 (rn_st_ok (rn_icmp (by decide +kernel : decode cX7_areUsedDomainsOn 10 = .ok (.if_icmp .ge 40, 3)) rfl)) 
  (rn_c1 (rn_st_ok (rn_aload_n (by decide +kernel : decode cX7_areUsedDomainsOn 13 = .ok (.aload_n 0, 1)) rfl)) 
  (rn_c1 (rn_st_ok (rn_getf rc_8 (by decide +kernel : decode cX7_areUsedDomainsOn 14 = .ok (.getfield 19, 3)) (by decide) aw_71 (Or.inl rfl))) rn_n1)))))))))
theorem rp_122_1 : ∀ q ∈ rw_122_1, rn_TS MM RX7 cX7_areUsedDomainsOn 3 ([], "areUsedDomainsOn", some Jvm.ClassFile.FieldType.boolean) q.1 q.2 :=
  (rn_c1 (rn_st_ok (rn_iload_n (by decide +kernel : decode cX7_areUsedDomainsOn 17 = .ok (.iload_n 1, 1)) rfl)) 
  (rn_c1 (rn_ca_ok (rn_siV (ci := 0) rfl (by decide +kernel : decode cX7_areUsedDomainsOn 18 = .ok (.invokevirtual 211, 3)) rfl rfl cw_0 aw_118 (rn_lc aw_115 (rn_lc aw_116 (rn_lc aw_117 (rn_l1 aw_4))))) rfl rfl (rn_h0n rfl) rn_h0t) 
  (rn_c1 (rn_st_ok (rn_cast rc_2 (by decide +kernel : decode cX7_areUsedDomainsOn 21 = .ok (.checkcast 152, 3)) aw_136)) 
  (rn_c1 (rn_st_ok (rn_astore_n (by decide +kernel : decode cX7_areUsedDomainsOn 24 = .ok (.astore_n 2, 1)) rfl (by decide))) 
  (rn_c1 (rn_st_ok (rn_aload_n (by decide +kernel : decode cX7_areUsedDomainsOn 25 = .ok (.aload_n 2, 1)) rfl)) 
  (rn_c1 (rn_st_ok (rn_getfN rc_2 (by decide +kernel : decode cX7_areUsedDomainsOn 26 = .ok (.getfield 176, 3)) (by decide) ab_634 (Or.inl rfl))) 
  (rn_c1 (rn_st_ok (rn_ifc (by decide +kernel : decode cX7_areUsedDomainsOn 29 = .ok (.ifCond .eq 15, 3)) rfl)) rn_n1)))))))
theorem rp_122_2 : ∀ q ∈ rw_122_2, rn_TS MM RX7 cX7_areUsedDomainsOn 3 ([], "areUsedDomainsOn", some Jvm.ClassFile.FieldType.boolean) q.1 q.2 :=
  (rn_c1 (rn_st_ok (rn_aload_n (by decide +kernel : decode cX7_areUsedDomainsOn 32 = .ok (.aload_n 2, 1)) rfl)) 
  (rn_c1 (rn_st_ok (rn_getfN rc_2 (by decide +kernel : decode cX7_areUsedDomainsOn 33 = .ok (.getfield 393, 3)) (by decide) ab_624 (Or.inl rfl))) 
  (rn_c1 (rn_ca_ok (rn_siVN (ci := 3) rfl (by decide +kernel : decode cX7_areUsedDomainsOn 36 = .ok (.invokevirtual 397, 3)) rfl cw_123 aw_153 ab_150 (rn_lc aw_152 (rn_l1 as_3))) rfl rfl (rn_h0n rfl) rn_h0t) 
  (rn_c1 (rn_st_ok (rn_ifc (by decide +kernel : decode cX7_areUsedDomainsOn 39 = .ok (.ifCond .ne 5, 3)) rfl)) 
  (rn_c1 (rn_st_ok (rn_iconst (by decide +kernel : decode cX7_areUsedDomainsOn 42 = .ok (.iconst 0, 1)) rfl)) 
  (rn_c1 (rn_ret (by decide +kernel : decode cX7_areUsedDomainsOn 43 = .ok (.ireturn, 1)) rfl (Or.inr (Or.inr (Or.inl ⟨rfl, rfl⟩))) (Or.inr (Or.inr ⟨Or.inr rfl, rfl⟩))) 
  (rn_c1 (rn_st_ok (rn_iinc (by decide +kernel : decode cX7_areUsedDomainsOn 44 = .ok (.iinc 1 1, 3)) rfl (by decide))) 
  (rn_c1 (rn_st_ok (rn_goto (by decide +kernel : decode cX7_areUsedDomainsOn 47 = .ok (.goto (-45), 3)) rfl)) rn_n1))))))))
theorem rp_122_3 : ∀ q ∈ rw_122_3, rn_TS MM RX7 cX7_areUsedDomainsOn 3 ([], "areUsedDomainsOn", some Jvm.ClassFile.FieldType.boolean) q.1 q.2 :=
  (rn_c1 (rn_st_ok (rn_iconst (by decide +kernel : decode cX7_areUsedDomainsOn 50 = .ok (.iconst 1, 1)) rfl)) 
  (rn_c1 (rn_ret (by decide +kernel : decode cX7_areUsedDomainsOn 51 = .ok (.ireturn, 1)) rfl (Or.inr (Or.inr (Or.inl ⟨rfl, rfl⟩))) (Or.inr (Or.inr ⟨Or.inr rfl, rfl⟩))) rn_n1))
theorem tp_122 : ∀ row ∈ tb_122, ∀ q ∈ row, rn_TS MM RX7 cX7_areUsedDomainsOn 3 ([], "areUsedDomainsOn", some Jvm.ClassFile.FieldType.boolean) q.1 q.2 := (rn_c2 rp_122_0 (rn_c2 rp_122_1 (rn_c2 rp_122_2 (rn_c2 rp_122_3 rn_n2))))
theorem rp_123_0 : ∀ q ∈ rw_123_0, rn_TS MM RX2 cX2_isUsedUpward 2 ([], "isUsedUpward", some Jvm.ClassFile.FieldType.boolean) q.1 q.2 :=
  (rn_c1 (rn_st_ok (rn_aload_n (by decide +kernel : decode cX2_isUsedUpward 0 = .ok (.aload_n 0, 1)) rfl)) 
  (rn_c1 (rn_st_ok (rn_astore_n (by decide +kernel : decode cX2_isUsedUpward 1 = .ok (.astore_n 1, 1)) rfl (by decide))) 
  (rn_c1 (rn_st_ok (rn_aload_n (by decide +kernel : decode cX2_isUsedUpward 2 = .ok (.aload_n 1, 1)) rfl)) 
  (rn_c1 (rn_st_ok (rn_ifnull (by decide +kernel : decode cX2_isUsedUpward 3 = .ok (.ifnull 20, 3)) rfl)) 
  (rn_c1 (rn_st_ok (rn_aload_n (by decide +kernel : decode cX2_isUsedUpward 6 = .ok (.aload_n 1, 1)) rfl)) 
  (rn_c1 (rn_ca_ok (rn_siV (ci := 3) rfl (by decide +kernel : decode cX2_isUsedUpward 7 = .ok (.invokevirtual 37, 3)) rfl rfl cw_20 aw_135 (rn_lc aw_154 (rn_lc aw_133 (rn_lc as_0 (rn_l1 aw_22))))) rfl rfl (rn_h0n rfl) rn_h0t) 
  (rn_c1 (rn_st_ok (rn_ifc (by decide +kernel : decode cX2_isUsedUpward 10 = .ok (.ifCond .ne 5, 3)) rfl)) 
  (rn_c1 (rn_st_ok (rn_iconst (by decide +kernel : decode cX2_isUsedUpward 13 = .ok (.iconst 0, 1)) rfl)) 
  (rn_c1 (rn_ret (by decide +kernel : decode cX2_isUsedUpward 14 = .ok (.ireturn, 1)) rfl (Or.inr (Or.inr (Or.inl ⟨rfl, rfl⟩))) (Or.inr (Or.inr ⟨Or.inr rfl, rfl⟩))) 
  (rn_c1 (rn_st_ok (rn_aload_n (by decide +kernel : decode cX2_isUsedUpward 15 = .ok (.aload_n 1, 1)) rfl)) rn_n1))))))))))
theorem rp_123_1 : ∀ q ∈ rw_123_1, rn_TS MM RX2 cX2_isUsedUpward 2 ([], "isUsedUpward", some Jvm.ClassFile.FieldType.boolean) q.1 q.2 :=
  (rn_c1 (rn_st_ok (rn_getf rc_3 (by decide +kernel : decode cX2_isUsedUpward 16 = .ok (.getfield 22, 3)) (by decide) aw_518 (Or.inl rfl))) 
  (rn_c1 (rn_st_ok (rn_astore_n (by decide +kernel : decode cX2_isUsedUpward 19 = .ok (.astore_n 1, 1)) rfl (by decide))) 
  (rn_c1 (rn_st_ok (rn_goto (by decide +kernel : decode cX2_isUsedUpward 20 = .ok (.goto (-18), 3)) rfl)) 
  (rn_c1 (rn_st_ok (rn_iconst (by decide +kernel : decode cX2_isUsedUpward 23 = .ok (.iconst 1, 1)) rfl)) 
  (rn_c1 (rn_ret (by decide +kernel : decode cX2_isUsedUpward 24 = .ok (.ireturn, 1)) rfl (Or.inr (Or.inr (Or.inl ⟨rfl, rfl⟩))) (Or.inr (Or.inr ⟨Or.inr rfl, rfl⟩))) rn_n1)))))
theorem tp_123 : ∀ row ∈ tb_123, ∀ q ∈ row, rn_TS MM RX2 cX2_isUsedUpward 2 ([], "isUsedUpward", some Jvm.ClassFile.FieldType.boolean) q.1 q.2 := (rn_c2 rp_123_0 (rn_c2 rp_123_1 rn_n2))
theorem rp_124_0 : ∀ q ∈ rw_124_0, rn_TS MM RX7 cX7_areClaimsAllEnergy 4 ([], "areClaimsAllEnergy", some Jvm.ClassFile.FieldType.boolean) q.1 q.2 :=
  (rn_c1 (rn_st_ok (rn_aload_n (by decide +kernel : decode cX7_areClaimsAllEnergy 0 = .ok (.aload_n 0, 1)) rfl)) 
  (rn_c1 (rn_st_ok (rn_getf rc_8 (by decide +kernel : decode cX7_areClaimsAllEnergy 1 = .ok (.getfield 253, 3)) (by decide) aw_75 (Or.inl rfl))) 
  (rn_c1 (rn_st_ok (rn_lneg (by decide +kernel : decode cX7_areClaimsAllEnergy 4 = .ok (.lneg, 1)))) 
  (rn_c1 (rn_st_ok (rn_lstore_n (by decide +kernel : decode cX7_areClaimsAllEnergy 5 = .ok (.lstore_n 1, 1)) rfl (by decide))) 
  (rn_c1 (rn_st_ok (rn_iconst (by decide +kernel : decode cX7_areClaimsAllEnergy 6 = .ok (.iconst 0, 1)) rfl)) 
  (rn_c1 (rn_st_ok (rn_istore_n (by decide +kernel : decode cX7_areClaimsAllEnergy 7 = .ok (.istore_n 3, 1)) rfl (by decide))) 
  (rn_c1 (rn_st_ok (rn_iload_n (by decide +kernel : decode cX7_areClaimsAllEnergy 8 = .ok (.iload_n 3, 1)) rfl)) 
  (rn_c1 (rn_st_ok (rn_bipush (by decide +kernel : decode cX7_areClaimsAllEnergy 9 = .ok (.bipush 6, 2)) rfl)) 
  (rn_c1 (rn_st_ok (rn_icmp (by decide +kernel : decode cX7_areClaimsAllEnergy 11 = .ok (.if_icmp .ge 18, 3)) rfl)) 
  (rn_c1 (rn_st_ok (rn_lload_n (by decide +kernel : decode cX7_areClaimsAllEnergy 14 = .ok (.lload_n 1, 1)) rfl)) 
  (rn_c1 (rn_st_ok (rn_aload_n (by decide +kernel : decode cX7_areClaimsAllEnergy 15 = .ok (.aload_n 0, 1)) rfl)) rn_n1)))))))))))
theorem rp_124_1 : ∀ q ∈ rw_124_1, rn_TS MM RX7 cX7_areClaimsAllEnergy 4 ([], "areClaimsAllEnergy", some Jvm.ClassFile.FieldType.boolean) q.1 q.2 :=
  (rn_c1 (rn_st_ok (rn_getf rc_8 (by decide +kernel : decode cX7_areClaimsAllEnergy 16 = .ok (.getfield 28, 3)) (by decide) aw_74 (Or.inl rfl))) 
  (rn_c1 (rn_st_ok (rn_iload_n (by decide +kernel : decode cX7_areClaimsAllEnergy 19 = .ok (.iload_n 3, 1)) rfl)) 
  (rn_c1 (rn_st_ok (rn_laload (by decide +kernel : decode cX7_areClaimsAllEnergy 20 = .ok (.laload, 1)))) 
  (rn_c1 (rn_st_ok (rn_lsub (by decide +kernel : decode cX7_areClaimsAllEnergy 21 = .ok (.lsub, 1)))) 
  (rn_c1 (rn_st_ok (rn_lstore_n (by decide +kernel : decode cX7_areClaimsAllEnergy 22 = .ok (.lstore_n 1, 1)) rfl (by decide))) 
  (rn_c1 (rn_st_ok (rn_iinc (by decide +kernel : decode cX7_areClaimsAllEnergy 23 = .ok (.iinc 3 1, 3)) rfl (by decide))) 
  (rn_c1 (rn_st_ok (rn_goto (by decide +kernel : decode cX7_areClaimsAllEnergy 26 = .ok (.goto (-18), 3)) rfl)) 
  (rn_c1 (rn_st_ok (rn_iconst (by decide +kernel : decode cX7_areClaimsAllEnergy 29 = .ok (.iconst 0, 1)) rfl)) 
  (rn_c1 (rn_st_ok (rn_istore_n (by decide +kernel : decode cX7_areClaimsAllEnergy 30 = .ok (.istore_n 3, 1)) rfl (by decide))) 
  (rn_c1 (rn_st_ok (rn_iload_n (by decide +kernel : decode cX7_areClaimsAllEnergy 31 = .ok (.iload_n 3, 1)) rfl)) rn_n1))))))))))
theorem rp_124_2 : ∀ q ∈ rw_124_2, rn_TS MM RX7 cX7_areClaimsAllEnergy 4 ([], "areClaimsAllEnergy", some Jvm.ClassFile.FieldType.boolean) q.1 q.2 :=
  (rn_c1 (rn_st_ok (rn_aload_n (by decide +kernel : decode cX7_areClaimsAllEnergy 32 = .ok (.aload_n 0, 1)) rfl)) 
  (rn_c1 (rn_st_ok (rn_getf rc_8 (by decide +kernel : decode cX7_areClaimsAllEnergy 33 = .ok (.getfield 16, 3)) (by decide) aw_70 (Or.inl rfl))) 
  (rn_c1 (rn_ca_ok (rn_siV (ci := 0) rfl (by decide +kernel : decode cX7_areClaimsAllEnergy 36 = .ok (.invokevirtual 49, 3)) rfl rfl cw_1 aw_113 (rn_lc aw_110 (rn_lc aw_111 (rn_lc aw_112 (rn_l1 aw_4))))) rfl rfl (rn_h0n rfl) rn_h0t) 
  (rn_c1 (rn_st_ok (rn_icmp (by decide +kernel : decode cX7_areClaimsAllEnergy 39 = .ok (.if_icmp .ge 26, 3)) rfl)) 
  (rn_c1 (rn_st_ok (rn_lload_n (by decide +kernel : decode cX7_areClaimsAllEnergy 42 = .ok (.lload_n 1, 1)) rfl)) 
  (rn_c1 (rn_st_ok (rn_aload_n (by decide +kernel : decode cX7_areClaimsAllEnergy 43 = .ok (.aload_n 0, 1)) rfl)) 
  (rn_c1 (rn_st_ok (rn_getf rc_8 (by decide +kernel : decode cX7_areClaimsAllEnergy 44 = .ok (.getfield 16, 3)) (by decide) aw_70 (Or.inl rfl))) 
  (rn_c1 (rn_st_ok (rn_iload_n (by decide +kernel : decode cX7_areClaimsAllEnergy 47 = .ok (.iload_n 3, 1)) rfl)) rn_n1))))))))
theorem rp_124_3 : ∀ q ∈ rw_124_3, rn_TS MM RX7 cX7_areClaimsAllEnergy 4 ([], "areClaimsAllEnergy", some Jvm.ClassFile.FieldType.boolean) q.1 q.2 :=
  (rn_c1 (rn_ca_ok (rn_siV (ci := 0) rfl (by decide +kernel : decode cX7_areClaimsAllEnergy 48 = .ok (.invokevirtual 211, 3)) rfl rfl cw_0 aw_118 (rn_lc aw_115 (rn_lc aw_116 (rn_lc aw_117 (rn_l1 aw_4))))) rfl rfl (rn_h0n rfl) rn_h0t) 
  (rn_c1 (rn_st_ok (rn_cast rc_3 (by decide +kernel : decode cX7_areClaimsAllEnergy 51 = .ok (.checkcast 116, 3)) aw_130)) 
  (rn_c1 (rn_st_ok (rn_getfN rc_3 (by decide +kernel : decode cX7_areClaimsAllEnergy 54 = .ok (.getfield 129, 3)) (by decide) ab_532 (Or.inl rfl))) 
  (rn_c1 (rn_st_ok (rn_ladd (by decide +kernel : decode cX7_areClaimsAllEnergy 57 = .ok (.ladd, 1)))) 
  (rn_c1 (rn_st_ok (rn_lstore_n (by decide +kernel : decode cX7_areClaimsAllEnergy 58 = .ok (.lstore_n 1, 1)) rfl (by decide))) 
  (rn_c1 (rn_st_ok (rn_iinc (by decide +kernel : decode cX7_areClaimsAllEnergy 59 = .ok (.iinc 3 1, 3)) rfl (by decide))) 
  (rn_c1 (rn_st_ok (rn_goto (by decide +kernel : decode cX7_areClaimsAllEnergy 62 = .ok (.goto (-31), 3)) rfl)) rn_n1)))))))
theorem rp_124_4 : ∀ q ∈ rw_124_4, rn_TS MM RX7 cX7_areClaimsAllEnergy 4 ([], "areClaimsAllEnergy", some Jvm.ClassFile.FieldType.boolean) q.1 q.2 :=
  (rn_c1 (rn_st_ok (rn_lload_n (by decide +kernel : decode cX7_areClaimsAllEnergy 65 = .ok (.lload_n 1, 1)) rfl)) 
  (rn_c1 (rn_st_ok (rn_lconst (by decide +kernel : decode cX7_areClaimsAllEnergy 66 = .ok (.lconst 0, 1)) rfl)) 
  (rn_c1 (rn_st_ok (rn_lcmp (by decide +kernel : decode cX7_areClaimsAllEnergy 67 = .ok (.lcmp, 1)))) 
  (rn_c1 (rn_st_ok (rn_ifc (by decide +kernel : decode cX7_areClaimsAllEnergy 68 = .ok (.ifCond .ne 7, 3)) rfl)) 
  (rn_c1 (rn_st_ok (rn_iconst (by decide +kernel : decode cX7_areClaimsAllEnergy 71 = .ok (.iconst 1, 1)) rfl)) 
  (rn_c1 (rn_st_ok (rn_goto (by decide +kernel : decode cX7_areClaimsAllEnergy 72 = .ok (.goto 4, 3)) rfl)) 
  (rn_c1 (rn_st_ok (rn_iconst (by decide +kernel : decode cX7_areClaimsAllEnergy 75 = .ok (.iconst 0, 1)) rfl)) 
  (rn_c1 (rn_ret (by decide +kernel : decode cX7_areClaimsAllEnergy 76 = .ok (.ireturn, 1)) rfl (Or.inr (Or.inr (Or.inl ⟨rfl, rfl⟩))) (Or.inr (Or.inr ⟨Or.inr rfl, rfl⟩))) rn_n1))))))))
theorem tp_124 : ∀ row ∈ tb_124, ∀ q ∈ row, rn_TS MM RX7 cX7_areClaimsAllEnergy 4 ([], "areClaimsAllEnergy", some Jvm.ClassFile.FieldType.boolean) q.1 q.2 := (rn_c2 rp_124_0 (rn_c2 rp_124_1 (rn_c2 rp_124_2 (rn_c2 rp_124_3 (rn_c2 rp_124_4 rn_n2)))))
theorem rp_125_0 : ∀ q ∈ rw_125_0, rn_TS MM RX7 cX7_areLevelsBounded 3 ([], "areLevelsBounded", some Jvm.ClassFile.FieldType.boolean) q.1 q.2 :=
  (rn_c1 (rn_st_ok (rn_iconst (by decide +kernel : decode cX7_areLevelsBounded 0 = .ok (.iconst 0, 1)) rfl)) 
  (rn_c1 (rn_st_ok (rn_istore_n (by decide +kernel : decode cX7_areLevelsBounded 1 = .ok (.istore_n 1, 1)) rfl (by decide))) 
  (rn_c1 (rn_st_ok (rn_iload_n (by decide +kernel : decode cX7_areLevelsBounded 2 = .ok (.iload_n 1, 1)) rfl)) 
  (rn_c1 (rn_st_ok (rn_aload_n (by decide +kernel : decode cX7_areLevelsBounded 3 = .ok (.aload_n 0, 1)) rfl)) 
  (rn_c1 (rn_st_ok (rn_getf rc_8 (by decide +kernel : decode cX7_areLevelsBounded 4 = .ok (.getfield 10, 3)) (by decide) aw_69 (Or.inl rfl))) 
  (rn_c1 (rn_ca_ok (rn_siV (ci := 0) rfl (by decide +kernel : decode cX7_areLevelsBounded 7 = .ok (.invokevirtual 49, 3)) rfl rfl cw_1 aw_113 (rn_lc aw_110 (rn_lc aw_111 (rn_lc aw_112 (rn_l1 aw_4))))) rfl rfl (rn_h0n rfl) rn_h0t) 
  (rn_c1 (rn_st_ok (rn_icmp (by decide +kernel : decode cX7_areLevelsBounded 10 = .ok (.if_icmp .ge 34, 3)) rfl)) 
  (rn_c1 (rn_st_ok (rn_aload_n (by decide +kernel : decode cX7_areLevelsBounded 13 = .ok (.aload_n 0, 1)) rfl)) 
  (rn_c1 (rn_st_ok (rn_getf rc_8 (by decide +kernel : decode cX7_areLevelsBounded 14 = .ok (.getfield 10, 3)) (by decide) aw_69 (Or.inl rfl))) rn_n1)))))))))
theorem rp_125_1 : ∀ q ∈ rw_125_1, rn_TS MM RX7 cX7_areLevelsBounded 3 ([], "areLevelsBounded", some Jvm.ClassFile.FieldType.boolean) q.1 q.2 :=
  (rn_c1 (rn_st_ok (rn_iload_n (by decide +kernel : decode cX7_areLevelsBounded 17 = .ok (.iload_n 1, 1)) rfl)) 
  (rn_c1 (rn_ca_ok (rn_siV (ci := 0) rfl (by decide +kernel : decode cX7_areLevelsBounded 18 = .ok (.invokevirtual 211, 3)) rfl rfl cw_0 aw_118 (rn_lc aw_115 (rn_lc aw_116 (rn_lc aw_117 (rn_l1 aw_4))))) rfl rfl (rn_h0n rfl) rn_h0t) 
  (rn_c1 (rn_st_ok (rn_cast rc_6 (by decide +kernel : decode cX7_areLevelsBounded 21 = .ok (.checkcast 58, 3)) aw_129)) 
  (rn_c1 (rn_st_ok (rn_astore_n (by decide +kernel : decode cX7_areLevelsBounded 24 = .ok (.astore_n 2, 1)) rfl (by decide))) 
  (rn_c1 (rn_st_ok (rn_aload_n (by decide +kernel : decode cX7_areLevelsBounded 25 = .ok (.aload_n 2, 1)) rfl)) 
  (rn_c1 (rn_st_ok (rn_getfN rc_6 (by decide +kernel : decode cX7_areLevelsBounded 26 = .ok (.getfield 104, 3)) (by decide) ab_317 (Or.inl rfl))) 
  (rn_c1 (rn_st_ok (rn_aload_n (by decide +kernel : decode cX7_areLevelsBounded 29 = .ok (.aload_n 2, 1)) rfl)) 
  (rn_c1 (rn_ca_ok (rn_siVN (ci := 6) rfl (by decide +kernel : decode cX7_areLevelsBounded 30 = .ok (.invokevirtual 400, 3)) rfl cw_126 aw_167 ab_163 (rn_lc aw_165 (rn_l1 as_6))) rfl rfl (rn_h0n rfl) rn_h0t) rn_n1))))))))
theorem rp_125_2 : ∀ q ∈ rw_125_2, rn_TS MM RX7 cX7_areLevelsBounded 3 ([], "areLevelsBounded", some Jvm.ClassFile.FieldType.boolean) q.1 q.2 :=
  (rn_c1 (rn_st_ok (rn_icmp (by decide +kernel : decode cX7_areLevelsBounded 33 = .ok (.if_icmp .le 5, 3)) rfl)) 
  (rn_c1 (rn_st_ok (rn_iconst (by decide +kernel : decode cX7_areLevelsBounded 36 = .ok (.iconst 0, 1)) rfl)) 
  (rn_c1 (rn_ret (by decide +kernel : decode cX7_areLevelsBounded 37 = .ok (.ireturn, 1)) rfl (Or.inr (Or.inr (Or.inl ⟨rfl, rfl⟩))) (Or.inr (Or.inr ⟨Or.inr rfl, rfl⟩))) 
  (rn_c1 (rn_st_ok (rn_iinc (by decide +kernel : decode cX7_areLevelsBounded 38 = .ok (.iinc 1 1, 3)) rfl (by decide))) 
  (rn_c1 (rn_st_ok (rn_goto (by decide +kernel : decode cX7_areLevelsBounded 41 = .ok (.goto (-39), 3)) rfl)) 
  (rn_c1 (rn_st_ok (rn_iconst (by decide +kernel : decode cX7_areLevelsBounded 44 = .ok (.iconst 1, 1)) rfl)) 
  (rn_c1 (rn_ret (by decide +kernel : decode cX7_areLevelsBounded 45 = .ok (.ireturn, 1)) rfl (Or.inr (Or.inr (Or.inl ⟨rfl, rfl⟩))) (Or.inr (Or.inr ⟨Or.inr rfl, rfl⟩))) rn_n1)))))))
theorem tp_125 : ∀ row ∈ tb_125, ∀ q ∈ row, rn_TS MM RX7 cX7_areLevelsBounded 3 ([], "areLevelsBounded", some Jvm.ClassFile.FieldType.boolean) q.1 q.2 := (rn_c2 rp_125_0 (rn_c2 rp_125_1 (rn_c2 rp_125_2 rn_n2)))
theorem rp_126_0 : ∀ q ∈ rw_126_0, rn_TS MM RX5 cX5_greatestLevel 1 ([], "greatestLevel", some Jvm.ClassFile.FieldType.int) q.1 q.2 :=
  (rn_c1 (rn_st_ok (rn_aload_n (by decide +kernel : decode cX5_greatestLevel 0 = .ok (.aload_n 0, 1)) rfl)) 
  (rn_c1 (rn_st_ok (rn_getf rc_6 (by decide +kernel : decode cX5_greatestLevel 1 = .ok (.getfield 12, 3)) (by decide) aw_310 (Or.inl rfl))) 
  (rn_c1 (rn_ca_ok (rn_siV (ci := 0) rfl (by decide +kernel : decode cX5_greatestLevel 4 = .ok (.invokevirtual 37, 3)) rfl rfl cw_81 aw_171 (rn_lc aw_168 (rn_lc aw_169 (rn_lc aw_170 (rn_l1 aw_4))))) rfl rfl (rn_h0n rfl) rn_h0t) 
  (rn_c1 (rn_st_ok (rn_ifc (by decide +kernel : decode cX5_greatestLevel 7 = .ok (.ifCond .eq 7, 3)) rfl)) 
  (rn_c1 (rn_st_ok (rn_iconst (by decide +kernel : decode cX5_greatestLevel 10 = .ok (.iconst 0, 1)) rfl)) 
  (rn_c1 (rn_st_ok (rn_goto (by decide +kernel : decode cX5_greatestLevel 11 = .ok (.goto 25, 3)) rfl)) 
  (rn_c1 (rn_st_ok (rn_aload_n (by decide +kernel : decode cX5_greatestLevel 14 = .ok (.aload_n 0, 1)) rfl)) 
  (rn_c1 (rn_st_ok (rn_getf rc_6 (by decide +kernel : decode cX5_greatestLevel 15 = .ok (.getfield 12, 3)) (by decide) aw_310 (Or.inl rfl))) rn_n1))))))))
theorem rp_126_1 : ∀ q ∈ rw_126_1, rn_TS MM RX5 cX5_greatestLevel 1 ([], "greatestLevel", some Jvm.ClassFile.FieldType.int) q.1 q.2 :=
  (rn_c1 (rn_st_ok (rn_aload_n (by decide +kernel : decode cX5_greatestLevel 18 = .ok (.aload_n 0, 1)) rfl)) 
  (rn_c1 (rn_st_ok (rn_getf rc_6 (by decide +kernel : decode cX5_greatestLevel 19 = .ok (.getfield 12, 3)) (by decide) aw_310 (Or.inl rfl))) 
  (rn_c1 (rn_ca_ok (rn_siV (ci := 0) rfl (by decide +kernel : decode cX5_greatestLevel 22 = .ok (.invokevirtual 41, 3)) rfl rfl cw_1 aw_113 (rn_lc aw_172 (rn_lc aw_111 (rn_lc aw_112 (rn_l1 aw_4))))) rfl rfl (rn_h0n rfl) rn_h0t) 
  (rn_c1 (rn_st_ok (rn_iconst (by decide +kernel : decode cX5_greatestLevel 25 = .ok (.iconst 1, 1)) rfl)) 
  (rn_c1 (rn_st_ok (rn_isub (by decide +kernel : decode cX5_greatestLevel 26 = .ok (.isub, 1)))) 
  (rn_c1 (rn_ca_ok (rn_siV (ci := 0) rfl (by decide +kernel : decode cX5_greatestLevel 27 = .ok (.invokevirtual 45, 3)) rfl rfl cw_0 aw_118 (rn_lc aw_173 (rn_lc aw_116 (rn_lc aw_117 (rn_l1 aw_4))))) rfl rfl (rn_h0n rfl) rn_h0t) 
  (rn_c1 (rn_st_ok (rn_cast rc_5 (by decide +kernel : decode cX5_greatestLevel 30 = .ok (.checkcast 49, 3)) aw_174)) rn_n1)))))))
theorem rp_126_2 : ∀ q ∈ rw_126_2, rn_TS MM RX5 cX5_greatestLevel 1 ([], "greatestLevel", some Jvm.ClassFile.FieldType.int) q.1 q.2 :=
  (rn_c1 (rn_st_ok (rn_getfN rc_5 (by decide +kernel : decode cX5_greatestLevel 33 = .ok (.getfield 54, 3)) (by decide) ab_456 (Or.inl rfl))) 
  (rn_c1 (rn_ret (by decide +kernel : decode cX5_greatestLevel 36 = .ok (.ireturn, 1)) rfl (Or.inl ⟨rfl, rfl⟩) (Or.inr (Or.inr ⟨Or.inl rfl, rfl⟩))) rn_n1))
theorem tp_126 : ∀ row ∈ tb_126, ∀ q ∈ row, rn_TS MM RX5 cX5_greatestLevel 1 ([], "greatestLevel", some Jvm.ClassFile.FieldType.int) q.1 q.2 := (rn_c2 rp_126_0 (rn_c2 rp_126_1 (rn_c2 rp_126_2 rn_n2)))
theorem rp_127_0 : ∀ q ∈ rw_127_0, rn_TS MM RL cL_sleeping 19 ([], "sleeping", some Jvm.ClassFile.FieldType.boolean) q.1 q.2 :=
  rn_n1
theorem rp_127_1 : ∀ q ∈ rw_127_1, rn_TS MM RL cL_sleeping 19 ([], "sleeping", some Jvm.ClassFile.FieldType.boolean) q.1 q.2 :=
  rn_n1
theorem rp_127_2 : ∀ q ∈ rw_127_2, rn_TS MM RL cL_sleeping 19 ([], "sleeping", some Jvm.ClassFile.FieldType.boolean) q.1 q.2 :=
  rn_n1
theorem rp_127_3 : ∀ q ∈ rw_127_3, rn_TS MM RL cL_sleeping 19 ([], "sleeping", some Jvm.ClassFile.FieldType.boolean) q.1 q.2 :=
  rn_n1
theorem rp_127_4 : ∀ q ∈ rw_127_4, rn_TS MM RL cL_sleeping 19 ([], "sleeping", some Jvm.ClassFile.FieldType.boolean) q.1 q.2 :=
  rn_n1
theorem rp_127_5 : ∀ q ∈ rw_127_5, rn_TS MM RL cL_sleeping 19 ([], "sleeping", some Jvm.ClassFile.FieldType.boolean) q.1 q.2 :=
  rn_n1
theorem rp_127_6 : ∀ q ∈ rw_127_6, rn_TS MM RL cL_sleeping 19 ([], "sleeping", some Jvm.ClassFile.FieldType.boolean) q.1 q.2 :=
  rn_n1
theorem rp_127_7 : ∀ q ∈ rw_127_7, rn_TS MM RL cL_sleeping 19 ([], "sleeping", some Jvm.ClassFile.FieldType.boolean) q.1 q.2 :=
  rn_n1
theorem rp_127_8 : ∀ q ∈ rw_127_8, rn_TS MM RL cL_sleeping 19 ([], "sleeping", some Jvm.ClassFile.FieldType.boolean) q.1 q.2 :=
  rn_n1
theorem rp_127_9 : ∀ q ∈ rw_127_9, rn_TS MM RL cL_sleeping 19 ([], "sleeping", some Jvm.ClassFile.FieldType.boolean) q.1 q.2 :=
  rn_n1
theorem rp_127_10 : ∀ q ∈ rw_127_10, rn_TS MM RL cL_sleeping 19 ([], "sleeping", some Jvm.ClassFile.FieldType.boolean) q.1 q.2 :=
  rn_n1
theorem rp_127_11 : ∀ q ∈ rw_127_11, rn_TS MM RL cL_sleeping 19 ([], "sleeping", some Jvm.ClassFile.FieldType.boolean) q.1 q.2 :=
  rn_n1
theorem rp_127_12 : ∀ q ∈ rw_127_12, rn_TS MM RL cL_sleeping 19 ([], "sleeping", some Jvm.ClassFile.FieldType.boolean) q.1 q.2 :=
  rn_n1
theorem rp_127_13 : ∀ q ∈ rw_127_13, rn_TS MM RL cL_sleeping 19 ([], "sleeping", some Jvm.ClassFile.FieldType.boolean) q.1 q.2 :=
  rn_n1
theorem rp_127_14 : ∀ q ∈ rw_127_14, rn_TS MM RL cL_sleeping 19 ([], "sleeping", some Jvm.ClassFile.FieldType.boolean) q.1 q.2 :=
  rn_n1
theorem rp_127_15 : ∀ q ∈ rw_127_15, rn_TS MM RL cL_sleeping 19 ([], "sleeping", some Jvm.ClassFile.FieldType.boolean) q.1 q.2 :=
  rn_n1
theorem rp_127_16 : ∀ q ∈ rw_127_16, rn_TS MM RL cL_sleeping 19 ([], "sleeping", some Jvm.ClassFile.FieldType.boolean) q.1 q.2 :=
  rn_n1
theorem rp_127_17 : ∀ q ∈ rw_127_17, rn_TS MM RL cL_sleeping 19 ([], "sleeping", some Jvm.ClassFile.FieldType.boolean) q.1 q.2 :=
  rn_n1
theorem rp_127_18 : ∀ q ∈ rw_127_18, rn_TS MM RL cL_sleeping 19 ([], "sleeping", some Jvm.ClassFile.FieldType.boolean) q.1 q.2 :=
  (rn_c1 (rn_st_ok (rn_iload (by decide +kernel : decode cL_sleeping 299 = .ok (.iload 11, 2)))) 
  (rn_c1 (rn_st_ok (rn_bipush (by decide +kernel : decode cL_sleeping 301 = .ok (.bipush 50, 2)) rfl)) 
  (rn_c1 (rn_st_ok (rn_icmp (by decide +kernel : decode cL_sleeping 303 = .ok (.if_icmp .ge 647, 3)) rfl)) rn_n1)))
theorem rp_127_19 : ∀ q ∈ rw_127_19, rn_TS MM RL cL_sleeping 19 ([], "sleeping", some Jvm.ClassFile.FieldType.boolean) q.1 q.2 :=
  (rn_c1 (rn_st_ok (rn_aload_n (by decide +kernel : decode cL_sleeping 306 = .ok (.aload_n 0, 1)) rfl)) 
  (rn_c1 (rn_st_ok (rn_bipush (by decide +kernel : decode cL_sleeping 307 = .ok (.bipush 10, 2)) rfl)) 
  (rn_c1 (rn_st_ok (rn_iload (by decide +kernel : decode cL_sleeping 309 = .ok (.iload 11, 2)))) 
  (rn_c1 (rn_st_ok (rn_iadd (by decide +kernel : decode cL_sleeping 311 = .ok (.iadd, 1)))) 
  (rn_c1 (rn_ca_ok (rn_siS (by decide +kernel : decode cL_sleeping 312 = .ok (.invokestatic 183, 3)) rfl cw_67 aw_1315 (rn_lc aw_1313 (rn_lc aw_1314 (rn_l1 aw_0)))) rfl rfl (rn_h0n rfl) rn_h0t) 
  (rn_c1 (rn_st_ok (rn_ldc (by decide +kernel : decode cL_sleeping 315 = .ok (.ldc 190, 2)) aw_1319 rfl)) 
  (rn_c1 (rn_ca_ok (rn_siS (by decide +kernel : decode cL_sleeping 317 = .ok (.invokestatic 187, 3)) rfl cw_68 aw_1318 (rn_lc aw_1316 (rn_lc aw_1317 (rn_l1 aw_0)))) rfl rfl (rn_h0n rfl) rn_h0t) rn_n1)))))))
theorem rp_127_20 : ∀ q ∈ rw_127_20, rn_TS MM RL cL_sleeping 19 ([], "sleeping", some Jvm.ClassFile.FieldType.boolean) q.1 q.2 :=
  (rn_c1 (rn_st_ok (rn_istore (by decide +kernel : decode cL_sleeping 320 = .ok (.istore 12, 2)) (by decide))) 
  (rn_c1 (rn_st_ok (rn_iload (by decide +kernel : decode cL_sleeping 322 = .ok (.iload 12, 2)))) 
  (rn_c1 (rn_st_ok (rn_bipush (by decide +kernel : decode cL_sleeping 324 = .ok (.bipush 10, 2)) rfl)) 
  (rn_c1 (rn_st_ok (rn_idiv (by decide +kernel : decode cL_sleeping 326 = .ok (.idiv, 1)))) 
  (rn_c1 (rn_st_ok (rn_iload_n (by decide +kernel : decode cL_sleeping 327 = .ok (.iload_n 2, 1)) rfl)) 
  (rn_c1 (rn_st_ok (rn_iremR (by decide +kernel : decode cL_sleeping 328 = .ok (.irem, 1)))) 
  (rn_c1 (rn_st_ok (rn_istore (by decide +kernel : decode cL_sleeping 329 = .ok (.istore 13, 2)) (by decide))) 
  (rn_c1 (rn_st_ok (rn_iload (by decide +kernel : decode cL_sleeping 331 = .ok (.iload 12, 2)))) 
  (rn_c1 (rn_st_ok (rn_bipush (by decide +kernel : decode cL_sleeping 333 = .ok (.bipush 100, 2)) rfl)) 
  (rn_c1 (rn_st_ok (rn_idiv (by decide +kernel : decode cL_sleeping 335 = .ok (.idiv, 1)))) rn_n1))))))))))
theorem rp_127_21 : ∀ q ∈ rw_127_21, rn_TS MM RL cL_sleeping 19 ([], "sleeping", some Jvm.ClassFile.FieldType.boolean) q.1 q.2 :=
  (rn_c1 (rn_st_ok (rn_iconst (by decide +kernel : decode cL_sleeping 336 = .ok (.iconst 2, 1)) rfl)) 
  (rn_c1 (rn_st_ok (rn_iremR (by decide +kernel : decode cL_sleeping 337 = .ok (.irem, 1)))) 
  (rn_c1 (rn_st_ok (rn_bit_ok (t1 := 345) (by decide +kernel : decode cL_sleeping 338 = .ok (.ifCond .ne 7, 3)) rfl (by decide +kernel : decode cL_sleeping 341 = .ok (.iconst 1, 1)) (by decide +kernel : decode cL_sleeping 342 = .ok (.goto 4, 3)) rfl (by decide +kernel : decode cL_sleeping 345 = .ok (.iconst 0, 1)) rfl)) 
  (rn_c1 (rn_st_ok (rn_iconst (by decide +kernel : decode cL_sleeping 341 = .ok (.iconst 1, 1)) rfl)) 
  (rn_c1 (rn_st_ok (rn_goto (by decide +kernel : decode cL_sleeping 342 = .ok (.goto 4, 3)) rfl)) 
  (rn_c1 (rn_st_ok (rn_iconst (by decide +kernel : decode cL_sleeping 345 = .ok (.iconst 0, 1)) rfl)) 
  (rn_c1 (rn_st_ok (rn_istore (by decide +kernel : decode cL_sleeping 346 = .ok (.istore 14, 2)) (by decide))) 
  (rn_c1 (rn_st_ok (rn_iconst (by decide +kernel : decode cL_sleeping 348 = .ok (.iconst 0, 1)) rfl)) 
  (rn_c1 (rn_st_ok (rn_istore (by decide +kernel : decode cL_sleeping 349 = .ok (.istore 15, 2)) (by decide))) 
  (rn_c1 (rn_st_ok (rn_iload (by decide +kernel : decode cL_sleeping 351 = .ok (.iload 12, 2)))) rn_n1))))))))))
theorem rp_127_22 : ∀ q ∈ rw_127_22, rn_TS MM RL cL_sleeping 19 ([], "sleeping", some Jvm.ClassFile.FieldType.boolean) q.1 q.2 :=
  (rn_c1 (rn_st_ok (rn_iconst (by decide +kernel : decode cL_sleeping 353 = .ok (.iconst 5, 1)) rfl)) 
  (rn_c1 (rn_st_ok (rn_irem (by decide +kernel : decode cL_sleeping 354 = .ok (.irem, 1)))) 
  (rn_c1 (rn_st_ok (rn_tsw (by decide +kernel : decode cL_sleeping 355 = .ok (.tableswitch 496 0 3 #[29, 134, 260, 394], 29)) rfl rfl rfl)) rn_n1)))
theorem rp_127_23 : ∀ q ∈ rw_127_23, rn_TS MM RL cL_sleeping 19 ([], "sleeping", some Jvm.ClassFile.FieldType.boolean) q.1 q.2 :=
  rn_n1
theorem rp_127_24 : ∀ q ∈ rw_127_24, rn_TS MM RL cL_sleeping 19 ([], "sleeping", some Jvm.ClassFile.FieldType.boolean) q.1 q.2 :=
  (rn_c1 (rn_st_ok (rn_aload_n (by decide +kernel : decode cL_sleeping 384 = .ok (.aload_n 1, 1)) rfl)) 
  (rn_c1 (rn_st_ok (rn_bipush (by decide +kernel : decode cL_sleeping 385 = .ok (.bipush 67, 2)) rfl)) 
  (rn_c1 (rn_st_ok (rn_iconst (by decide +kernel : decode cL_sleeping 387 = .ok (.iconst 2, 1)) rfl)) 
  (rn_c1 (rn_st_ok (rn_newI (by decide +kernel : decode cL_sleeping 388 = .ok (.newarray .int, 2)) aw_353)) 
  (rn_c1 (rn_st_ok (rn_dup (by decide +kernel : decode cL_sleeping 390 = .ok (.dup, 1)))) 
  (rn_c1 (rn_st_ok (rn_iconst (by decide +kernel : decode cL_sleeping 391 = .ok (.iconst 0, 1)) rfl)) 
  (rn_c1 (rn_st_ok (rn_lds_ok (rn_iload (by decide +kernel : decode cL_sleeping 392 = .ok (.iload 13, 2))))) 
  (rn_c1 (rn_st_ok (rn_iastore (by decide +kernel : decode cL_sleeping 394 = .ok (.iastore, 1)))) 
  (rn_c1 (rn_st_ok (rn_dup (by decide +kernel : decode cL_sleeping 395 = .ok (.dup, 1)))) 
  (rn_c1 (rn_st_ok (rn_iconst (by decide +kernel : decode cL_sleeping 396 = .ok (.iconst 1, 1)) rfl)) 
  (rn_c1 (rn_st_ok (rn_lds_ok (rn_iload (by decide +kernel : decode cL_sleeping 397 = .ok (.iload 14, 2))))) 
  (rn_c1 (rn_st_ok (rn_ifc (by decide +kernel : decode cL_sleeping 399 = .ok (.ifCond .eq 7, 3)) rfl)) rn_n1))))))))))))
theorem rp_127_25 : ∀ q ∈ rw_127_25, rn_TS MM RL cL_sleeping 19 ([], "sleeping", some Jvm.ClassFile.FieldType.boolean) q.1 q.2 :=
  (rn_c1 (rn_st_ok (rn_iconst (by decide +kernel : decode cL_sleeping 402 = .ok (.iconst 1, 1)) rfl)) 
  (rn_c1 (rn_st_ok (rn_goto (by decide +kernel : decode cL_sleeping 403 = .ok (.goto 4, 3)) rfl)) 
  (rn_c1 (rn_st_ok (rn_iconst (by decide +kernel : decode cL_sleeping 406 = .ok (.iconst 0, 1)) rfl)) 
  (rn_c1 (rn_st_ok (rn_iastore (by decide +kernel : decode cL_sleeping 407 = .ok (.iastore, 1)))) 
  (rn_c1 (rn_ca_ok (rn_siSX (by decide +kernel : decode cL_sleeping 408 = .ok (.invokestatic 173, 3)) rfl cw_5 aw_177 (rn_lc aw_175 (rn_lc aw_176 (rn_l1 aw_0)))) rfl rfl (rn_h0n rfl) rn_h0t) 
  (rn_c1 (rn_st_ok (rn_istore (by decide +kernel : decode cL_sleeping 411 = .ok (.istore 16, 2)) (by decide))) 
  (rn_c1 (rn_st_ok (rn_iload (by decide +kernel : decode cL_sleeping 413 = .ok (.iload 16, 2)))) 
  (rn_c1 (rn_st_ok (rn_aload (by decide +kernel : decode cL_sleeping 415 = .ok (.aload 5, 2)))) rn_n1))))))))
theorem rp_127_26 : ∀ q ∈ rw_127_26, rn_TS MM RL cL_sleeping 19 ([], "sleeping", some Jvm.ClassFile.FieldType.boolean) q.1 q.2 :=
  (rn_c1 (rn_st_ok (rn_iload (by decide +kernel : decode cL_sleeping 417 = .ok (.iload 13, 2)))) 
  (rn_c1 (rn_st_ok (rn_baload (by decide +kernel : decode cL_sleeping 419 = .ok (.baload, 1)))) 
  (rn_c1 (rn_st_ok (rn_ifc (by decide +kernel : decode cL_sleeping 420 = .ok (.ifCond .eq 7, 3)) rfl)) 
  (rn_c1 (rn_st_ok (rn_iconst (by decide +kernel : decode cL_sleeping 423 = .ok (.iconst 1, 1)) rfl)) 
  (rn_c1 (rn_st_ok (rn_goto (by decide +kernel : decode cL_sleeping 424 = .ok (.goto 4, 3)) rfl)) 
  (rn_c1 (rn_st_ok (rn_iconst (by decide +kernel : decode cL_sleeping 427 = .ok (.iconst 0, 1)) rfl)) 
  (rn_c1 (rn_st_ok (rn_icmp (by decide +kernel : decode cL_sleeping 428 = .ok (.if_icmp .eq 5, 3)) rfl)) 
  (rn_c1 (rn_st_ok (rn_iconst (by decide +kernel : decode cL_sleeping 431 = .ok (.iconst 0, 1)) rfl)) rn_n1))))))))
theorem rp_127_27 : ∀ q ∈ rw_127_27, rn_TS MM RL cL_sleeping 19 ([], "sleeping", some Jvm.ClassFile.FieldType.boolean) q.1 q.2 :=
  (rn_c1 (rn_ret (by decide +kernel : decode cL_sleeping 432 = .ok (.ireturn, 1)) rfl (Or.inr (Or.inr (Or.inl ⟨rfl, rfl⟩))) (Or.inr (Or.inr ⟨Or.inr rfl, rfl⟩))) 
  (rn_c1 (rn_st_ok (rn_aload (by decide +kernel : decode cL_sleeping 433 = .ok (.aload 5, 2)))) 
  (rn_c1 (rn_st_ok (rn_iload (by decide +kernel : decode cL_sleeping 435 = .ok (.iload 13, 2)))) 
  (rn_c1 (rn_st_ok (rn_iload (by decide +kernel : decode cL_sleeping 437 = .ok (.iload 14, 2)))) 
  (rn_c1 (rn_st_ok (rn_bastore (by decide +kernel : decode cL_sleeping 439 = .ok (.bastore, 1)))) 
  (rn_c1 (rn_st_ok (rn_aload (by decide +kernel : decode cL_sleeping 440 = .ok (.aload 7, 2)))) 
  (rn_c1 (rn_st_ok (rn_iload (by decide +kernel : decode cL_sleeping 442 = .ok (.iload 13, 2)))) 
  (rn_c1 (rn_st_ok (rn_aload (by decide +kernel : decode cL_sleeping 444 = .ok (.aload 7, 2)))) 
  (rn_c1 (rn_st_ok (rn_iload (by decide +kernel : decode cL_sleeping 446 = .ok (.iload 13, 2)))) rn_n1)))))))))
theorem rp_127_28 : ∀ q ∈ rw_127_28, rn_TS MM RL cL_sleeping 19 ([], "sleeping", some Jvm.ClassFile.FieldType.boolean) q.1 q.2 :=
  (rn_c1 (rn_st_ok (rn_baload (by decide +kernel : decode cL_sleeping 448 = .ok (.baload, 1)))) 
  (rn_c1 (rn_st_ok (rn_ifc (by decide +kernel : decode cL_sleeping 449 = .ok (.ifCond .eq 12, 3)) rfl)) 
  (rn_c1 (rn_st_ok (rn_iload (by decide +kernel : decode cL_sleeping 452 = .ok (.iload 14, 2)))) 
  (rn_c1 (rn_st_ok (rn_ifc (by decide +kernel : decode cL_sleeping 454 = .ok (.ifCond .eq 7, 3)) rfl)) 
  (rn_c1 (rn_st_ok (rn_iconst (by decide +kernel : decode cL_sleeping 457 = .ok (.iconst 1, 1)) rfl)) 
  (rn_c1 (rn_st_ok (rn_goto (by decide +kernel : decode cL_sleeping 458 = .ok (.goto 4, 3)) rfl)) 
  (rn_c1 (rn_st_ok (rn_iconst (by decide +kernel : decode cL_sleeping 461 = .ok (.iconst 0, 1)) rfl)) 
  (rn_c1 (rn_st_ok (rn_bastore (by decide +kernel : decode cL_sleeping 462 = .ok (.bastore, 1)))) 
  (rn_c1 (rn_st_ok (rn_aload (by decide +kernel : decode cL_sleeping 463 = .ok (.aload 8, 2)))) rn_n1)))))))))
theorem rp_127_29 : ∀ q ∈ rw_127_29, rn_TS MM RL cL_sleeping 19 ([], "sleeping", some Jvm.ClassFile.FieldType.boolean) q.1 q.2 :=
  (rn_c1 (rn_st_ok (rn_iload (by decide +kernel : decode cL_sleeping 465 = .ok (.iload 13, 2)))) 
  (rn_c1 (rn_st_ok (rn_aload (by decide +kernel : decode cL_sleeping 467 = .ok (.aload 8, 2)))) 
  (rn_c1 (rn_st_ok (rn_iload (by decide +kernel : decode cL_sleeping 469 = .ok (.iload 13, 2)))) 
  (rn_c1 (rn_st_ok (rn_baload (by decide +kernel : decode cL_sleeping 471 = .ok (.baload, 1)))) 
  (rn_c1 (rn_st_ok (rn_ifc (by decide +kernel : decode cL_sleeping 472 = .ok (.ifCond .eq 12, 3)) rfl)) 
  (rn_c1 (rn_st_ok (rn_iload (by decide +kernel : decode cL_sleeping 475 = .ok (.iload 14, 2)))) 
  (rn_c1 (rn_st_ok (rn_ifc (by decide +kernel : decode cL_sleeping 477 = .ok (.ifCond .eq 7, 3)) rfl)) rn_n1)))))))
theorem rp_127_30 : ∀ q ∈ rw_127_30, rn_TS MM RL cL_sleeping 19 ([], "sleeping", some Jvm.ClassFile.FieldType.boolean) q.1 q.2 :=
  (rn_c1 (rn_st_ok (rn_iconst (by decide +kernel : decode cL_sleeping 480 = .ok (.iconst 1, 1)) rfl)) 
  (rn_c1 (rn_st_ok (rn_goto (by decide +kernel : decode cL_sleeping 481 = .ok (.goto 4, 3)) rfl)) 
  (rn_c1 (rn_st_ok (rn_iconst (by decide +kernel : decode cL_sleeping 484 = .ok (.iconst 0, 1)) rfl)) 
  (rn_c1 (rn_st_ok (rn_bastore (by decide +kernel : decode cL_sleeping 485 = .ok (.bastore, 1)))) 
  (rn_c1 (rn_st_ok (rn_goto (by decide +kernel : decode cL_sleeping 486 = .ok (.goto 391, 3)) rfl)) 
  (rn_c1 (rn_st_ok (rn_aload_n (by decide +kernel : decode cL_sleeping 489 = .ok (.aload_n 1, 1)) rfl)) 
  (rn_c1 (rn_st_ok (rn_bipush (by decide +kernel : decode cL_sleeping 490 = .ok (.bipush 75, 2)) rfl)) 
  (rn_c1 (rn_st_ok (rn_iconst (by decide +kernel : decode cL_sleeping 492 = .ok (.iconst 2, 1)) rfl)) 
  (rn_c1 (rn_st_ok (rn_newI (by decide +kernel : decode cL_sleeping 493 = .ok (.newarray .int, 2)) aw_353)) 
  (rn_c1 (rn_st_ok (rn_dup (by decide +kernel : decode cL_sleeping 495 = .ok (.dup, 1)))) rn_n1))))))))))
theorem rp_127_31 : ∀ q ∈ rw_127_31, rn_TS MM RL cL_sleeping 19 ([], "sleeping", some Jvm.ClassFile.FieldType.boolean) q.1 q.2 :=
  (rn_c1 (rn_st_ok (rn_iconst (by decide +kernel : decode cL_sleeping 496 = .ok (.iconst 0, 1)) rfl)) 
  (rn_c1 (rn_st_ok (rn_lds_ok (rn_iload (by decide +kernel : decode cL_sleeping 497 = .ok (.iload 13, 2))))) 
  (rn_c1 (rn_st_ok (rn_iastore (by decide +kernel : decode cL_sleeping 499 = .ok (.iastore, 1)))) 
  (rn_c1 (rn_st_ok (rn_dup (by decide +kernel : decode cL_sleeping 500 = .ok (.dup, 1)))) 
  (rn_c1 (rn_st_ok (rn_iconst (by decide +kernel : decode cL_sleeping 501 = .ok (.iconst 1, 1)) rfl)) 
  (rn_c1 (rn_st_ok (rn_lds_ok (rn_iload (by decide +kernel : decode cL_sleeping 502 = .ok (.iload 14, 2))))) 
  (rn_c1 (rn_st_ok (rn_ifc (by decide +kernel : decode cL_sleeping 504 = .ok (.ifCond .eq 7, 3)) rfl)) 
  (rn_c1 (rn_st_ok (rn_iconst (by decide +kernel : decode cL_sleeping 507 = .ok (.iconst 1, 1)) rfl)) 
  (rn_c1 (rn_st_ok (rn_goto (by decide +kernel : decode cL_sleeping 508 = .ok (.goto 4, 3)) rfl)) 
  (rn_c1 (rn_st_ok (rn_iconst (by decide +kernel : decode cL_sleeping 511 = .ok (.iconst 0, 1)) rfl)) rn_n1))))))))))
theorem rp_127_32 : ∀ q ∈ rw_127_32, rn_TS MM RL cL_sleeping 19 ([], "sleeping", some Jvm.ClassFile.FieldType.boolean) q.1 q.2 :=
  (rn_c1 (rn_st_ok (rn_iastore (by decide +kernel : decode cL_sleeping 512 = .ok (.iastore, 1)))) 
  (rn_c1 (rn_ca_ok (rn_siSX (by decide +kernel : decode cL_sleeping 513 = .ok (.invokestatic 173, 3)) rfl cw_5 aw_177 (rn_lc aw_175 (rn_lc aw_176 (rn_l1 aw_0)))) rfl rfl (rn_h0n rfl) rn_h0t) 
  (rn_c1 (rn_st_ok (rn_istore (by decide +kernel : decode cL_sleeping 516 = .ok (.istore 16, 2)) (by decide))) 
  (rn_c1 (rn_st_ok (rn_aload (by decide +kernel : decode cL_sleeping 518 = .ok (.aload 6, 2)))) 
  (rn_c1 (rn_st_ok (rn_iload (by decide +kernel : decode cL_sleeping 520 = .ok (.iload 13, 2)))) 
  (rn_c1 (rn_st_ok (rn_iload (by decide +kernel : decode cL_sleeping 522 = .ok (.iload 14, 2)))) 
  (rn_c1 (rn_st_ok (rn_bastore (by decide +kernel : decode cL_sleeping 524 = .ok (.bastore, 1)))) 
  (rn_c1 (rn_st_ok (rn_iload (by decide +kernel : decode cL_sleeping 525 = .ok (.iload 14, 2)))) 
  (rn_c1 (rn_st_ok (rn_ifc (by decide +kernel : decode cL_sleeping 527 = .ok (.ifCond .eq 38, 3)) rfl)) rn_n1)))))))))
theorem rp_127_33 : ∀ q ∈ rw_127_33, rn_TS MM RL cL_sleeping 19 ([], "sleeping", some Jvm.ClassFile.FieldType.boolean) q.1 q.2 :=
  (rn_c1 (rn_st_ok (rn_aload (by decide +kernel : decode cL_sleeping 530 = .ok (.aload 7, 2)))) 
  (rn_c1 (rn_st_ok (rn_iload (by decide +kernel : decode cL_sleeping 532 = .ok (.iload 13, 2)))) 
  (rn_c1 (rn_st_ok (rn_aload (by decide +kernel : decode cL_sleeping 534 = .ok (.aload 7, 2)))) 
  (rn_c1 (rn_st_ok (rn_iload (by decide +kernel : decode cL_sleeping 536 = .ok (.iload 13, 2)))) 
  (rn_c1 (rn_st_ok (rn_baload (by decide +kernel : decode cL_sleeping 538 = .ok (.baload, 1)))) 
  (rn_c1 (rn_st_ok (rn_ifc (by decide +kernel : decode cL_sleeping 539 = .ok (.ifCond .ne 11, 3)) rfl)) 
  (rn_c1 (rn_st_ok (rn_aload (by decide +kernel : decode cL_sleeping 542 = .ok (.aload 8, 2)))) rn_n1)))))))
theorem rp_127_34 : ∀ q ∈ rw_127_34, rn_TS MM RL cL_sleeping 19 ([], "sleeping", some Jvm.ClassFile.FieldType.boolean) q.1 q.2 :=
  (rn_c1 (rn_st_ok (rn_iload (by decide +kernel : decode cL_sleeping 544 = .ok (.iload 13, 2)))) 
  (rn_c1 (rn_st_ok (rn_baload (by decide +kernel : decode cL_sleeping 546 = .ok (.baload, 1)))) 
  (rn_c1 (rn_st_ok (rn_ifc (by decide +kernel : decode cL_sleeping 547 = .ok (.ifCond .eq 7, 3)) rfl)) 
  (rn_c1 (rn_st_ok (rn_iconst (by decide +kernel : decode cL_sleeping 550 = .ok (.iconst 1, 1)) rfl)) 
  (rn_c1 (rn_st_ok (rn_goto (by decide +kernel : decode cL_sleeping 551 = .ok (.goto 4, 3)) rfl)) 
  (rn_c1 (rn_st_ok (rn_iconst (by decide +kernel : decode cL_sleeping 554 = .ok (.iconst 0, 1)) rfl)) 
  (rn_c1 (rn_st_ok (rn_bastore (by decide +kernel : decode cL_sleeping 555 = .ok (.bastore, 1)))) 
  (rn_c1 (rn_st_ok (rn_aload (by decide +kernel : decode cL_sleeping 556 = .ok (.aload 8, 2)))) 
  (rn_c1 (rn_st_ok (rn_iload (by decide +kernel : decode cL_sleeping 558 = .ok (.iload 13, 2)))) rn_n1)))))))))
theorem rp_127_35 : ∀ q ∈ rw_127_35, rn_TS MM RL cL_sleeping 19 ([], "sleeping", some Jvm.ClassFile.FieldType.boolean) q.1 q.2 :=
  (rn_c1 (rn_st_ok (rn_iconst (by decide +kernel : decode cL_sleeping 560 = .ok (.iconst 0, 1)) rfl)) 
  (rn_c1 (rn_st_ok (rn_bastore (by decide +kernel : decode cL_sleeping 561 = .ok (.bastore, 1)))) 
  (rn_c1 (rn_st_ok (rn_goto (by decide +kernel : decode cL_sleeping 562 = .ok (.goto 36, 3)) rfl)) 
  (rn_c1 (rn_st_ok (rn_aload (by decide +kernel : decode cL_sleeping 565 = .ok (.aload 7, 2)))) 
  (rn_c1 (rn_st_ok (rn_iload (by decide +kernel : decode cL_sleeping 567 = .ok (.iload 13, 2)))) 
  (rn_c1 (rn_st_ok (rn_baload (by decide +kernel : decode cL_sleeping 569 = .ok (.baload, 1)))) 
  (rn_c1 (rn_st_ok (rn_ifc (by decide +kernel : decode cL_sleeping 570 = .ok (.ifCond .eq 28, 3)) rfl)) 
  (rn_c1 (rn_st_ok (rn_aload (by decide +kernel : decode cL_sleeping 573 = .ok (.aload 7, 2)))) 
  (rn_c1 (rn_st_ok (rn_iload (by decide +kernel : decode cL_sleeping 575 = .ok (.iload 13, 2)))) rn_n1)))))))))
theorem rp_127_36 : ∀ q ∈ rw_127_36, rn_TS MM RL cL_sleeping 19 ([], "sleeping", some Jvm.ClassFile.FieldType.boolean) q.1 q.2 :=
  (rn_c1 (rn_st_ok (rn_iconst (by decide +kernel : decode cL_sleeping 577 = .ok (.iconst 0, 1)) rfl)) 
  (rn_c1 (rn_st_ok (rn_bastore (by decide +kernel : decode cL_sleeping 578 = .ok (.bastore, 1)))) 
  (rn_c1 (rn_st_ok (rn_iload (by decide +kernel : decode cL_sleeping 579 = .ok (.iload 9, 2)))) 
  (rn_c1 (rn_st_ok (rn_istore (by decide +kernel : decode cL_sleeping 581 = .ok (.istore 15, 2)) (by decide))) 
  (rn_c1 (rn_st_ok (rn_aload (by decide +kernel : decode cL_sleeping 583 = .ok (.aload 8, 2)))) 
  (rn_c1 (rn_st_ok (rn_iload (by decide +kernel : decode cL_sleeping 585 = .ok (.iload 13, 2)))) 
  (rn_c1 (rn_st_ok (rn_iload (by decide +kernel : decode cL_sleeping 587 = .ok (.iload 9, 2)))) 
  (rn_c1 (rn_st_ok (rn_ifc (by decide +kernel : decode cL_sleeping 589 = .ok (.ifCond .ne 7, 3)) rfl)) rn_n1))))))))
theorem rp_127_37 : ∀ q ∈ rw_127_37, rn_TS MM RL cL_sleeping 19 ([], "sleeping", some Jvm.ClassFile.FieldType.boolean) q.1 q.2 :=
  (rn_c1 (rn_st_ok (rn_iconst (by decide +kernel : decode cL_sleeping 592 = .ok (.iconst 1, 1)) rfl)) 
  (rn_c1 (rn_st_ok (rn_goto (by decide +kernel : decode cL_sleeping 593 = .ok (.goto 4, 3)) rfl)) 
  (rn_c1 (rn_st_ok (rn_iconst (by decide +kernel : decode cL_sleeping 596 = .ok (.iconst 0, 1)) rfl)) 
  (rn_c1 (rn_st_ok (rn_bastore (by decide +kernel : decode cL_sleeping 597 = .ok (.bastore, 1)))) 
  (rn_c1 (rn_st_ok (rn_iload (by decide +kernel : decode cL_sleeping 598 = .ok (.iload 16, 2)))) 
  (rn_c1 (rn_st_ok (rn_iload (by decide +kernel : decode cL_sleeping 600 = .ok (.iload 15, 2)))) 
  (rn_c1 (rn_st_ok (rn_ifc (by decide +kernel : decode cL_sleeping 602 = .ok (.ifCond .eq 7, 3)) rfl)) 
  (rn_c1 (rn_st_ok (rn_iconst (by decide +kernel : decode cL_sleeping 605 = .ok (.iconst 1, 1)) rfl)) 
  (rn_c1 (rn_st_ok (rn_goto (by decide +kernel : decode cL_sleeping 606 = .ok (.goto 4, 3)) rfl)) rn_n1)))))))))
theorem rp_127_38 : ∀ q ∈ rw_127_38, rn_TS MM RL cL_sleeping 19 ([], "sleeping", some Jvm.ClassFile.FieldType.boolean) q.1 q.2 :=
  (rn_c1 (rn_st_ok (rn_iconst (by decide +kernel : decode cL_sleeping 609 = .ok (.iconst 0, 1)) rfl)) 
  (rn_c1 (rn_st_ok (rn_icmp (by decide +kernel : decode cL_sleeping 610 = .ok (.if_icmp .eq 267, 3)) rfl)) 
  (rn_c1 (rn_st_ok (rn_iconst (by decide +kernel : decode cL_sleeping 613 = .ok (.iconst 0, 1)) rfl)) 
  (rn_c1 (rn_ret (by decide +kernel : decode cL_sleeping 614 = .ok (.ireturn, 1)) rfl (Or.inr (Or.inr (Or.inl ⟨rfl, rfl⟩))) (Or.inr (Or.inr ⟨Or.inr rfl, rfl⟩))) 
  (rn_c1 (rn_st_ok (rn_aload_n (by decide +kernel : decode cL_sleeping 615 = .ok (.aload_n 1, 1)) rfl)) 
  (rn_c1 (rn_st_ok (rn_bipush (by decide +kernel : decode cL_sleeping 616 = .ok (.bipush 117, 2)) rfl)) 
  (rn_c1 (rn_st_ok (rn_iconst (by decide +kernel : decode cL_sleeping 618 = .ok (.iconst 1, 1)) rfl)) 
  (rn_c1 (rn_st_ok (rn_newI (by decide +kernel : decode cL_sleeping 619 = .ok (.newarray .int, 2)) aw_353)) 
  (rn_c1 (rn_st_ok (rn_dup (by decide +kernel : decode cL_sleeping 621 = .ok (.dup, 1)))) 
  (rn_c1 (rn_st_ok (rn_iconst (by decide +kernel : decode cL_sleeping 622 = .ok (.iconst 0, 1)) rfl)) 
  (rn_c1 (rn_st_ok (rn_lds_ok (rn_iload (by decide +kernel : decode cL_sleeping 623 = .ok (.iload 13, 2))))) rn_n1)))))))))))
theorem rp_127_39 : ∀ q ∈ rw_127_39, rn_TS MM RL cL_sleeping 19 ([], "sleeping", some Jvm.ClassFile.FieldType.boolean) q.1 q.2 :=
  (rn_c1 (rn_st_ok (rn_iastore (by decide +kernel : decode cL_sleeping 625 = .ok (.iastore, 1)))) 
  (rn_c1 (rn_ca_ok (rn_siSX (by decide +kernel : decode cL_sleeping 626 = .ok (.invokestatic 173, 3)) rfl cw_5 aw_177 (rn_lc aw_175 (rn_lc aw_176 (rn_l1 aw_0)))) rfl rfl (rn_h0n rfl) rn_h0t) 
  (rn_c1 (rn_st_ok (rn_istore (by decide +kernel : decode cL_sleeping 629 = .ok (.istore 16, 2)) (by decide))) 
  (rn_c1 (rn_st_ok (rn_aload (by decide +kernel : decode cL_sleeping 631 = .ok (.aload 7, 2)))) 
  (rn_c1 (rn_st_ok (rn_iload (by decide +kernel : decode cL_sleeping 633 = .ok (.iload 13, 2)))) 
  (rn_c1 (rn_st_ok (rn_aload (by decide +kernel : decode cL_sleeping 635 = .ok (.aload 7, 2)))) 
  (rn_c1 (rn_st_ok (rn_iload (by decide +kernel : decode cL_sleeping 637 = .ok (.iload 13, 2)))) 
  (rn_c1 (rn_st_ok (rn_baload (by decide +kernel : decode cL_sleeping 639 = .ok (.baload, 1)))) rn_n1))))))))
theorem rp_127_40 : ∀ q ∈ rw_127_40, rn_TS MM RL cL_sleeping 19 ([], "sleeping", some Jvm.ClassFile.FieldType.boolean) q.1 q.2 :=
  (rn_c1 (rn_st_ok (rn_ifc (by decide +kernel : decode cL_sleeping 640 = .ok (.ifCond .ne 19, 3)) rfl)) 
  (rn_c1 (rn_st_ok (rn_aload (by decide +kernel : decode cL_sleeping 643 = .ok (.aload 5, 2)))) 
  (rn_c1 (rn_st_ok (rn_iload (by decide +kernel : decode cL_sleeping 645 = .ok (.iload 13, 2)))) 
  (rn_c1 (rn_st_ok (rn_baload (by decide +kernel : decode cL_sleeping 647 = .ok (.baload, 1)))) 
  (rn_c1 (rn_st_ok (rn_ifc (by decide +kernel : decode cL_sleeping 648 = .ok (.ifCond .eq 15, 3)) rfl)) 
  (rn_c1 (rn_st_ok (rn_aload (by decide +kernel : decode cL_sleeping 651 = .ok (.aload 6, 2)))) 
  (rn_c1 (rn_st_ok (rn_iload (by decide +kernel : decode cL_sleeping 653 = .ok (.iload 13, 2)))) 
  (rn_c1 (rn_st_ok (rn_baload (by decide +kernel : decode cL_sleeping 655 = .ok (.baload, 1)))) rn_n1))))))))
theorem rp_127_41 : ∀ q ∈ rw_127_41, rn_TS MM RL cL_sleeping 19 ([], "sleeping", some Jvm.ClassFile.FieldType.boolean) q.1 q.2 :=
  (rn_c1 (rn_st_ok (rn_ifc (by decide +kernel : decode cL_sleeping 656 = .ok (.ifCond .eq 7, 3)) rfl)) 
  (rn_c1 (rn_st_ok (rn_iconst (by decide +kernel : decode cL_sleeping 659 = .ok (.iconst 1, 1)) rfl)) 
  (rn_c1 (rn_st_ok (rn_goto (by decide +kernel : decode cL_sleeping 660 = .ok (.goto 4, 3)) rfl)) 
  (rn_c1 (rn_st_ok (rn_iconst (by decide +kernel : decode cL_sleeping 663 = .ok (.iconst 0, 1)) rfl)) 
  (rn_c1 (rn_st_ok (rn_bastore (by decide +kernel : decode cL_sleeping 664 = .ok (.bastore, 1)))) 
  (rn_c1 (rn_st_ok (rn_aload (by decide +kernel : decode cL_sleeping 665 = .ok (.aload 5, 2)))) 
  (rn_c1 (rn_st_ok (rn_iload (by decide +kernel : decode cL_sleeping 667 = .ok (.iload 13, 2)))) 
  (rn_c1 (rn_st_ok (rn_baload (by decide +kernel : decode cL_sleeping 669 = .ok (.baload, 1)))) 
  (rn_c1 (rn_st_ok (rn_ifc (by decide +kernel : decode cL_sleeping 670 = .ok (.ifCond .eq 20, 3)) rfl)) rn_n1)))))))))
theorem rp_127_42 : ∀ q ∈ rw_127_42, rn_TS MM RL cL_sleeping 19 ([], "sleeping", some Jvm.ClassFile.FieldType.boolean) q.1 q.2 :=
  (rn_c1 (rn_st_ok (rn_aload (by decide +kernel : decode cL_sleeping 673 = .ok (.aload 6, 2)))) 
  (rn_c1 (rn_st_ok (rn_iload (by decide +kernel : decode cL_sleeping 675 = .ok (.iload 13, 2)))) 
  (rn_c1 (rn_st_ok (rn_baload (by decide +kernel : decode cL_sleeping 677 = .ok (.baload, 1)))) 
  (rn_c1 (rn_st_ok (rn_ifc (by decide +kernel : decode cL_sleeping 678 = .ok (.ifCond .ne 12, 3)) rfl)) 
  (rn_c1 (rn_st_ok (rn_iload (by decide +kernel : decode cL_sleeping 681 = .ok (.iload 9, 2)))) 
  (rn_c1 (rn_st_ok (rn_ifc (by decide +kernel : decode cL_sleeping 683 = .ok (.ifCond .eq 7, 3)) rfl)) 
  (rn_c1 (rn_st_ok (rn_iconst (by decide +kernel : decode cL_sleeping 686 = .ok (.iconst 1, 1)) rfl)) 
  (rn_c1 (rn_st_ok (rn_goto (by decide +kernel : decode cL_sleeping 687 = .ok (.goto 4, 3)) rfl)) rn_n1))))))))
theorem rp_127_43 : ∀ q ∈ rw_127_43, rn_TS MM RL cL_sleeping 19 ([], "sleeping", some Jvm.ClassFile.FieldType.boolean) q.1 q.2 :=
  (rn_c1 (rn_st_ok (rn_iconst (by decide +kernel : decode cL_sleeping 690 = .ok (.iconst 0, 1)) rfl)) 
  (rn_c1 (rn_st_ok (rn_istore (by decide +kernel : decode cL_sleeping 691 = .ok (.istore 15, 2)) (by decide))) 
  (rn_c1 (rn_st_ok (rn_aload (by decide +kernel : decode cL_sleeping 693 = .ok (.aload 8, 2)))) 
  (rn_c1 (rn_st_ok (rn_iload (by decide +kernel : decode cL_sleeping 695 = .ok (.iload 13, 2)))) 
  (rn_c1 (rn_st_ok (rn_aload (by decide +kernel : decode cL_sleeping 697 = .ok (.aload 8, 2)))) 
  (rn_c1 (rn_st_ok (rn_iload (by decide +kernel : decode cL_sleeping 699 = .ok (.iload 13, 2)))) 
  (rn_c1 (rn_st_ok (rn_baload (by decide +kernel : decode cL_sleeping 701 = .ok (.baload, 1)))) 
  (rn_c1 (rn_st_ok (rn_ifc (by decide +kernel : decode cL_sleeping 702 = .ok (.ifCond .ne 24, 3)) rfl)) rn_n1))))))))
theorem rp_127_44 : ∀ q ∈ rw_127_44, rn_TS MM RL cL_sleeping 19 ([], "sleeping", some Jvm.ClassFile.FieldType.boolean) q.1 q.2 :=
  (rn_c1 (rn_st_ok (rn_aload (by decide +kernel : decode cL_sleeping 705 = .ok (.aload 5, 2)))) 
  (rn_c1 (rn_st_ok (rn_iload (by decide +kernel : decode cL_sleeping 707 = .ok (.iload 13, 2)))) 
  (rn_c1 (rn_st_ok (rn_baload (by decide +kernel : decode cL_sleeping 709 = .ok (.baload, 1)))) 
  (rn_c1 (rn_st_ok (rn_ifc (by decide +kernel : decode cL_sleeping 710 = .ok (.ifCond .eq 20, 3)) rfl)) 
  (rn_c1 (rn_st_ok (rn_aload (by decide +kernel : decode cL_sleeping 713 = .ok (.aload 6, 2)))) 
  (rn_c1 (rn_st_ok (rn_iload (by decide +kernel : decode cL_sleeping 715 = .ok (.iload 13, 2)))) 
  (rn_c1 (rn_st_ok (rn_baload (by decide +kernel : decode cL_sleeping 717 = .ok (.baload, 1)))) 
  (rn_c1 (rn_st_ok (rn_ifc (by decide +kernel : decode cL_sleeping 718 = .ok (.ifCond .ne 12, 3)) rfl)) rn_n1))))))))
theorem rp_127_45 : ∀ q ∈ rw_127_45, rn_TS MM RL cL_sleeping 19 ([], "sleeping", some Jvm.ClassFile.FieldType.boolean) q.1 q.2 :=
  (rn_c1 (rn_st_ok (rn_iload (by decide +kernel : decode cL_sleeping 721 = .ok (.iload 9, 2)))) 
  (rn_c1 (rn_st_ok (rn_ifc (by decide +kernel : decode cL_sleeping 723 = .ok (.ifCond .ne 7, 3)) rfl)) 
  (rn_c1 (rn_st_ok (rn_iconst (by decide +kernel : decode cL_sleeping 726 = .ok (.iconst 1, 1)) rfl)) 
  (rn_c1 (rn_st_ok (rn_goto (by decide +kernel : decode cL_sleeping 727 = .ok (.goto 4, 3)) rfl)) 
  (rn_c1 (rn_st_ok (rn_iconst (by decide +kernel : decode cL_sleeping 730 = .ok (.iconst 0, 1)) rfl)) 
  (rn_c1 (rn_st_ok (rn_bastore (by decide +kernel : decode cL_sleeping 731 = .ok (.bastore, 1)))) 
  (rn_c1 (rn_st_ok (rn_iload (by decide +kernel : decode cL_sleeping 732 = .ok (.iload 16, 2)))) 
  (rn_c1 (rn_st_ok (rn_iload (by decide +kernel : decode cL_sleeping 734 = .ok (.iload 15, 2)))) rn_n1))))))))
theorem rp_127_46 : ∀ q ∈ rw_127_46, rn_TS MM RL cL_sleeping 19 ([], "sleeping", some Jvm.ClassFile.FieldType.boolean) q.1 q.2 :=
  (rn_c1 (rn_st_ok (rn_ifc (by decide +kernel : decode cL_sleeping 736 = .ok (.ifCond .eq 7, 3)) rfl)) 
  (rn_c1 (rn_st_ok (rn_iconst (by decide +kernel : decode cL_sleeping 739 = .ok (.iconst 1, 1)) rfl)) 
  (rn_c1 (rn_st_ok (rn_goto (by decide +kernel : decode cL_sleeping 740 = .ok (.goto 4, 3)) rfl)) 
  (rn_c1 (rn_st_ok (rn_iconst (by decide +kernel : decode cL_sleeping 743 = .ok (.iconst 0, 1)) rfl)) 
  (rn_c1 (rn_st_ok (rn_icmp (by decide +kernel : decode cL_sleeping 744 = .ok (.if_icmp .eq 133, 3)) rfl)) 
  (rn_c1 (rn_st_ok (rn_iconst (by decide +kernel : decode cL_sleeping 747 = .ok (.iconst 0, 1)) rfl)) 
  (rn_c1 (rn_ret (by decide +kernel : decode cL_sleeping 748 = .ok (.ireturn, 1)) rfl (Or.inr (Or.inr (Or.inl ⟨rfl, rfl⟩))) (Or.inr (Or.inr ⟨Or.inr rfl, rfl⟩))) 
  (rn_c1 (rn_st_ok (rn_fps_ok (rn_iconst (by decide +kernel : decode cL_sleeping 749 = .ok (.iconst (-1), 1)) rfl))) 
  (rn_c1 (rn_st_ok (rn_istore (by decide +kernel : decode cL_sleeping 750 = .ok (.istore 17, 2)) (by decide))) rn_n1)))))))))
theorem rp_127_47 : ∀ q ∈ rw_127_47, rn_TS MM RL cL_sleeping 19 ([], "sleeping", some Jvm.ClassFile.FieldType.boolean) q.1 q.2 :=
  (rn_c1 (rn_st_ok (rn_iload_n (by decide +kernel : decode cL_sleeping 752 = .ok (.iload_n 2, 1)) rfl)) 
  (rn_c1 (rn_st_ok (rn_iconst (by decide +kernel : decode cL_sleeping 753 = .ok (.iconst 1, 1)) rfl)) 
  (rn_c1 (rn_st_ok (rn_isub (by decide +kernel : decode cL_sleeping 754 = .ok (.isub, 1)))) 
  (rn_c1 (rn_st_ok (rn_istore (by decide +kernel : decode cL_sleeping 755 = .ok (.istore 18, 2)) (by decide))) 
  (rn_c1 (rn_st_ok (rn_iload (by decide +kernel : decode cL_sleeping 757 = .ok (.iload 18, 2)))) 
  (rn_c1 (rn_st_ok (rn_ifc (by decide +kernel : decode cL_sleeping 759 = .ok (.ifCond .lt 26, 3)) rfl)) 
  (rn_c1 (rn_st_ok (rn_aload (by decide +kernel : decode cL_sleeping 762 = .ok (.aload 8, 2)))) 
  (rn_c1 (rn_st_ok (rn_iload (by decide +kernel : decode cL_sleeping 764 = .ok (.iload 18, 2)))) 
  (rn_c1 (rn_st_ok (rn_baload (by decide +kernel : decode cL_sleeping 766 = .ok (.baload, 1)))) 
  (rn_c1 (rn_st_ok (rn_sel_ok (t1 := 775) (by decide +kernel : decode cL_sleeping 767 = .ok (.ifCond .eq 8, 3)) rfl (by decide +kernel : decode cL_sleeping 770 = .ok (.iload 18, 2)) (by decide +kernel : decode cL_sleeping 772 = .ok (.goto 5, 3)) rfl (by decide +kernel : decode cL_sleeping 775 = .ok (.iload 17, 2)) rfl)) rn_n1))))))))))
theorem rp_127_48 : ∀ q ∈ rw_127_48, rn_TS MM RL cL_sleeping 19 ([], "sleeping", some Jvm.ClassFile.FieldType.boolean) q.1 q.2 :=
  (rn_c1 (rn_st_ok (rn_iload (by decide +kernel : decode cL_sleeping 770 = .ok (.iload 18, 2)))) 
  (rn_c1 (rn_st_ok (rn_goto (by decide +kernel : decode cL_sleeping 772 = .ok (.goto 5, 3)) rfl)) 
  (rn_c1 (rn_st_ok (rn_iload (by decide +kernel : decode cL_sleeping 775 = .ok (.iload 17, 2)))) 
  (rn_c1 (rn_st_ok (rn_istore (by decide +kernel : decode cL_sleeping 777 = .ok (.istore 17, 2)) (by decide))) 
  (rn_c1 (rn_st_ok (rn_iinc (by decide +kernel : decode cL_sleeping 779 = .ok (.iinc 18 (-1), 3)) rfl (by decide))) 
  (rn_c1 (rn_st_ok (rn_goto (by decide +kernel : decode cL_sleeping 782 = .ok (.goto (-25), 3)) rfl)) rn_n1))))))
theorem rp_127_49 : ∀ q ∈ rw_127_49, rn_TS MM RL cL_sleeping 19 ([], "sleeping", some Jvm.ClassFile.FieldType.boolean) q.1 q.2 :=
  (rn_c1 (rn_st_ok (rn_aload_n (by decide +kernel : decode cL_sleeping 785 = .ok (.aload_n 1, 1)) rfl)) 
  (rn_c1 (rn_st_ok (rn_bipush (by decide +kernel : decode cL_sleeping 786 = .ok (.bipush 90, 2)) rfl)) 
  (rn_c1 (rn_st_ok (rn_iconst (by decide +kernel : decode cL_sleeping 788 = .ok (.iconst 0, 1)) rfl)) 
  (rn_c1 (rn_st_ok (rn_newI (by decide +kernel : decode cL_sleeping 789 = .ok (.newarray .int, 2)) aw_353)) 
  (rn_c1 (rn_ca_ok (rn_siSX (by decide +kernel : decode cL_sleeping 791 = .ok (.invokestatic 173, 3)) rfl cw_5 aw_177 (rn_lc aw_175 (rn_lc aw_176 (rn_l1 aw_0)))) rfl rfl (rn_h0n rfl) rn_h0t) 
  (rn_c1 (rn_st_ok (rn_istore (by decide +kernel : decode cL_sleeping 794 = .ok (.istore 16, 2)) (by decide))) 
  (rn_c1 (rn_st_ok (rn_iload (by decide +kernel : decode cL_sleeping 796 = .ok (.iload 16, 2)))) 
  (rn_c1 (rn_st_ok (rn_iload (by decide +kernel : decode cL_sleeping 798 = .ok (.iload 9, 2)))) rn_n1))))))))
theorem rp_127_50 : ∀ q ∈ rw_127_50, rn_TS MM RL cL_sleeping 19 ([], "sleeping", some Jvm.ClassFile.FieldType.boolean) q.1 q.2 :=
  (rn_c1 (rn_st_ok (rn_ifc (by decide +kernel : decode cL_sleeping 800 = .ok (.ifCond .eq 8, 3)) rfl)) 
  (rn_c1 (rn_st_ok (rn_ldc (by decide +kernel : decode cL_sleeping 803 = .ok (.ldc 81, 2)) aw_1276 rfl)) 
  (rn_c1 (rn_st_ok (rn_goto (by decide +kernel : decode cL_sleeping 805 = .ok (.goto 5, 3)) rfl)) 
  (rn_c1 (rn_st_ok (rn_iload (by decide +kernel : decode cL_sleeping 808 = .ok (.iload 17, 2)))) 
  (rn_c1 (rn_st_ok (rn_icmp (by decide +kernel : decode cL_sleeping 810 = .ok (.if_icmp .eq 5, 3)) rfl)) 
  (rn_c1 (rn_st_ok (rn_iconst (by decide +kernel : decode cL_sleeping 813 = .ok (.iconst 0, 1)) rfl)) 
  (rn_c1 (rn_ret (by decide +kernel : decode cL_sleeping 814 = .ok (.ireturn, 1)) rfl (Or.inr (Or.inr (Or.inl ⟨rfl, rfl⟩))) (Or.inr (Or.inr ⟨Or.inr rfl, rfl⟩))) 
  (rn_c1 (rn_st_ok (rn_iload (by decide +kernel : decode cL_sleeping 815 = .ok (.iload 9, 2)))) rn_n1))))))))
theorem rp_127_51 : ∀ q ∈ rw_127_51, rn_TS MM RL cL_sleeping 19 ([], "sleeping", some Jvm.ClassFile.FieldType.boolean) q.1 q.2 :=
  (rn_c1 (rn_st_ok (rn_ifc (by decide +kernel : decode cL_sleeping 817 = .ok (.ifCond .ne 14, 3)) rfl)) 
  (rn_c1 (rn_st_ok (rn_iload (by decide +kernel : decode cL_sleeping 820 = .ok (.iload 17, 2)))) 
  (rn_c1 (rn_st_ok (rn_ifc (by decide +kernel : decode cL_sleeping 822 = .ok (.ifCond .lt 9, 3)) rfl)) 
  (rn_c1 (rn_st_ok (rn_aload (by decide +kernel : decode cL_sleeping 825 = .ok (.aload 8, 2)))) 
  (rn_c1 (rn_st_ok (rn_iload (by decide +kernel : decode cL_sleeping 827 = .ok (.iload 17, 2)))) 
  (rn_c1 (rn_st_ok (rn_iconst (by decide +kernel : decode cL_sleeping 829 = .ok (.iconst 0, 1)) rfl)) 
  (rn_c1 (rn_st_ok (rn_bastore (by decide +kernel : decode cL_sleeping 830 = .ok (.bastore, 1)))) 
  (rn_c1 (rn_st_ok (rn_iload (by decide +kernel : decode cL_sleeping 831 = .ok (.iload 9, 2)))) rn_n1))))))))
theorem rp_127_52 : ∀ q ∈ rw_127_52, rn_TS MM RL cL_sleeping 19 ([], "sleeping", some Jvm.ClassFile.FieldType.boolean) q.1 q.2 :=
  (rn_c1 (rn_st_ok (rn_ifc (by decide +kernel : decode cL_sleeping 833 = .ok (.ifCond .ne 8, 3)) rfl)) 
  (rn_c1 (rn_st_ok (rn_iload (by decide +kernel : decode cL_sleeping 836 = .ok (.iload 17, 2)))) 
  (rn_c1 (rn_st_ok (rn_ifc (by decide +kernel : decode cL_sleeping 838 = .ok (.ifCond .ge 7, 3)) rfl)) 
  (rn_c1 (rn_st_ok (rn_iconst (by decide +kernel : decode cL_sleeping 841 = .ok (.iconst 1, 1)) rfl)) 
  (rn_c1 (rn_st_ok (rn_goto (by decide +kernel : decode cL_sleeping 842 = .ok (.goto 4, 3)) rfl)) 
  (rn_c1 (rn_st_ok (rn_iconst (by decide +kernel : decode cL_sleeping 845 = .ok (.iconst 0, 1)) rfl)) 
  (rn_c1 (rn_st_ok (rn_istore (by decide +kernel : decode cL_sleeping 846 = .ok (.istore 9, 2)) (by decide))) rn_n1)))))))
theorem rp_127_53 : ∀ q ∈ rw_127_53, rn_TS MM RL cL_sleeping 19 ([], "sleeping", some Jvm.ClassFile.FieldType.boolean) q.1 q.2 :=
  (rn_c1 (rn_st_ok (rn_goto (by decide +kernel : decode cL_sleeping 848 = .ok (.goto 29, 3)) rfl)) 
  (rn_c1 (rn_st_ok (rn_aload_n (by decide +kernel : decode cL_sleeping 851 = .ok (.aload_n 1, 1)) rfl)) 
  (rn_c1 (rn_st_ok (rn_bipush (by decide +kernel : decode cL_sleeping 852 = .ok (.bipush 116, 2)) rfl)) 
  (rn_c1 (rn_st_ok (rn_iconst (by decide +kernel : decode cL_sleeping 854 = .ok (.iconst 1, 1)) rfl)) 
  (rn_c1 (rn_st_ok (rn_newI (by decide +kernel : decode cL_sleeping 855 = .ok (.newarray .int, 2)) aw_353)) 
  (rn_c1 (rn_st_ok (rn_dup (by decide +kernel : decode cL_sleeping 857 = .ok (.dup, 1)))) 
  (rn_c1 (rn_st_ok (rn_iconst (by decide +kernel : decode cL_sleeping 858 = .ok (.iconst 0, 1)) rfl)) 
  (rn_c1 (rn_st_ok (rn_iconst (by decide +kernel : decode cL_sleeping 859 = .ok (.iconst 1, 1)) rfl)) 
  (rn_c1 (rn_st_ok (rn_iload (by decide +kernel : decode cL_sleeping 860 = .ok (.iload 12, 2)))) 
  (rn_c1 (rn_st_ok (rn_bipush (by decide +kernel : decode cL_sleeping 862 = .ok (.bipush 10, 2)) rfl)) rn_n1))))))))))
theorem rp_127_54 : ∀ q ∈ rw_127_54, rn_TS MM RL cL_sleeping 19 ([], "sleeping", some Jvm.ClassFile.FieldType.boolean) q.1 q.2 :=
  (rn_c1 (rn_st_ok (rn_idiv (by decide +kernel : decode cL_sleeping 864 = .ok (.idiv, 1)))) 
  (rn_c1 (rn_st_ok (rn_iconst (by decide +kernel : decode cL_sleeping 865 = .ok (.iconst 3, 1)) rfl)) 
  (rn_c1 (rn_st_ok (rn_iremR (by decide +kernel : decode cL_sleeping 866 = .ok (.irem, 1)))) 
  (rn_c1 (rn_st_ok (rn_iadd (by decide +kernel : decode cL_sleeping 867 = .ok (.iadd, 1)))) 
  (rn_c1 (rn_st_ok (rn_iastore (by decide +kernel : decode cL_sleeping 868 = .ok (.iastore, 1)))) 
  (rn_c1 (rn_ca_ok (rn_siSX (by decide +kernel : decode cL_sleeping 869 = .ok (.invokestatic 173, 3)) rfl cw_5 aw_177 (rn_lc aw_175 (rn_lc aw_176 (rn_l1 aw_0)))) rfl rfl (rn_h0n rfl) rn_h0t) 
  (rn_c1 (rn_st_ok (rn_ifc (by decide +kernel : decode cL_sleeping 872 = .ok (.ifCond .ge 5, 3)) rfl)) 
  (rn_c1 (rn_st_ok (rn_iconst (by decide +kernel : decode cL_sleeping 875 = .ok (.iconst 0, 1)) rfl)) 
  (rn_c1 (rn_ret (by decide +kernel : decode cL_sleeping 876 = .ok (.ireturn, 1)) rfl (Or.inr (Or.inr (Or.inl ⟨rfl, rfl⟩))) (Or.inr (Or.inr ⟨Or.inr rfl, rfl⟩))) 
  (rn_c1 (rn_st_ok (rn_iload (by decide +kernel : decode cL_sleeping 877 = .ok (.iload 9, 2)))) 
  (rn_c1 (rn_st_ok (rn_ifc (by decide +kernel : decode cL_sleeping 879 = .ok (.ifCond .eq 12, 3)) rfl)) rn_n1)))))))))))
theorem rp_127_55 : ∀ q ∈ rw_127_55, rn_TS MM RL cL_sleeping 19 ([], "sleeping", some Jvm.ClassFile.FieldType.boolean) q.1 q.2 :=
  (rn_c1 (rn_st_ok (rn_iload (by decide +kernel : decode cL_sleeping 882 = .ok (.iload 15, 2)))) 
  (rn_c1 (rn_st_ok (rn_ifc (by decide +kernel : decode cL_sleeping 884 = .ok (.ifCond .ne 7, 3)) rfl)) 
  (rn_c1 (rn_st_ok (rn_iconst (by decide +kernel : decode cL_sleeping 887 = .ok (.iconst 1, 1)) rfl)) 
  (rn_c1 (rn_st_ok (rn_goto (by decide +kernel : decode cL_sleeping 888 = .ok (.goto 4, 3)) rfl)) 
  (rn_c1 (rn_st_ok (rn_iconst (by decide +kernel : decode cL_sleeping 891 = .ok (.iconst 0, 1)) rfl)) 
  (rn_c1 (rn_st_ok (rn_istore (by decide +kernel : decode cL_sleeping 892 = .ok (.istore 9, 2)) (by decide))) 
  (rn_c1 (rn_st_ok (rn_iload (by decide +kernel : decode cL_sleeping 894 = .ok (.iload 15, 2)))) rn_n1)))))))
theorem rp_127_56 : ∀ q ∈ rw_127_56, rn_TS MM RL cL_sleeping 19 ([], "sleeping", some Jvm.ClassFile.FieldType.boolean) q.1 q.2 :=
  (rn_c1 (rn_st_ok (rn_ifc (by decide +kernel : decode cL_sleeping 896 = .ok (.ifCond .eq 8, 3)) rfl)) 
  (rn_c1 (rn_st_ok (rn_iload (by decide +kernel : decode cL_sleeping 899 = .ok (.iload 13, 2)))) 
  (rn_c1 (rn_st_ok (rn_goto (by decide +kernel : decode cL_sleeping 901 = .ok (.goto 5, 3)) rfl)) 
  (rn_c1 (rn_st_ok (rn_iload (by decide +kernel : decode cL_sleeping 904 = .ok (.iload 10, 2)))) 
  (rn_c1 (rn_st_ok (rn_istore (by decide +kernel : decode cL_sleeping 906 = .ok (.istore 10, 2)) (by decide))) 
  (rn_c1 (rn_st_ok (rn_aload_n (by decide +kernel : decode cL_sleeping 908 = .ok (.aload_n 1, 1)) rfl)) 
  (rn_c1 (rn_st_ok (rn_bipush (by decide +kernel : decode cL_sleeping 909 = .ok (.bipush 99, 2)) rfl)) 
  (rn_c1 (rn_st_ok (rn_iconst (by decide +kernel : decode cL_sleeping 911 = .ok (.iconst 0, 1)) rfl)) rn_n1))))))))
theorem rp_127_57 : ∀ q ∈ rw_127_57, rn_TS MM RL cL_sleeping 19 ([], "sleeping", some Jvm.ClassFile.FieldType.boolean) q.1 q.2 :=
  (rn_c1 (rn_st_ok (rn_newI (by decide +kernel : decode cL_sleeping 912 = .ok (.newarray .int, 2)) aw_353)) 
  (rn_c1 (rn_ca_ok (rn_siSX (by decide +kernel : decode cL_sleeping 914 = .ok (.invokestatic 173, 3)) rfl cw_5 aw_177 (rn_lc aw_175 (rn_lc aw_176 (rn_l1 aw_0)))) rfl rfl (rn_h0n rfl) rn_h0t) 
  (rn_c1 (rn_st_ok (rn_iload (by decide +kernel : decode cL_sleeping 917 = .ok (.iload 10, 2)))) 
  (rn_c1 (rn_st_ok (rn_icmp (by decide +kernel : decode cL_sleeping 919 = .ok (.if_icmp .ne 23, 3)) rfl)) 
  (rn_c1 (rn_st_ok (rn_aload_n (by decide +kernel : decode cL_sleeping 922 = .ok (.aload_n 1, 1)) rfl)) 
  (rn_c1 (rn_ca_ok (rn_siV (ci := 8) rfl (by decide +kernel : decode cL_sleeping 923 = .ok (.invokevirtual 160, 3)) rfl rfl cw_22 aw_104 (rn_lc aw_101 (rn_lc aw_102 (rn_lc aw_103 (rn_l1 aw_1))))) rfl rfl (rn_h0n rfl) rn_h0t) 
  (rn_c1 (rn_st_ok (rn_iload (by decide +kernel : decode cL_sleeping 926 = .ok (.iload 9, 2)))) rn_n1)))))))
theorem rp_127_58 : ∀ q ∈ rw_127_58, rn_TS MM RL cL_sleeping 19 ([], "sleeping", some Jvm.ClassFile.FieldType.boolean) q.1 q.2 :=
  (rn_c1 (rn_st_ok (rn_icmp (by decide +kernel : decode cL_sleeping 928 = .ok (.if_icmp .ne 14, 3)) rfl)) 
  (rn_c1 (rn_cu_ok) rn_n1))
theorem rp_127_59 : ∀ q ∈ rw_127_59, rn_TS MM RL cL_sleeping 19 ([], "sleeping", some Jvm.ClassFile.FieldType.boolean) q.1 q.2 :=
  (rn_c1 (rn_st_ok (rn_aload_n (by decide +kernel : decode cL_sleeping 950 = .ok (.aload_n 1, 1)) rfl)) 
  (rn_c1 (rn_ca_ok (rn_siV (ci := 8) rfl (by decide +kernel : decode cL_sleeping 951 = .ok (.invokevirtual 170, 3)) rfl rfl cw_120 aw_141 (rn_lc aw_138 (rn_lc aw_139 (rn_lc aw_140 (rn_l1 aw_1))))) rfl rfl (rn_h0n rfl) rn_h0t) 
  (rn_c1 (rn_ret (by decide +kernel : decode cL_sleeping 954 = .ok (.ireturn, 1)) rfl (Or.inr (Or.inr (Or.inl ⟨rfl, rfl⟩))) (Or.inr (Or.inr ⟨Or.inr rfl, rfl⟩))) rn_n1)))
theorem tp_127 : ∀ row ∈ tb_127, ∀ q ∈ row, rn_TS MM RL cL_sleeping 19 ([], "sleeping", some Jvm.ClassFile.FieldType.boolean) q.1 q.2 := (rn_c2 rp_127_0 (rn_c2 rp_127_1 (rn_c2 rp_127_2 (rn_c2 rp_127_3 (rn_c2 rp_127_4 (rn_c2 rp_127_5 (rn_c2 rp_127_6 (rn_c2 rp_127_7 (rn_c2 rp_127_8 (rn_c2 rp_127_9 (rn_c2 rp_127_10 (rn_c2 rp_127_11 (rn_c2 rp_127_12 (rn_c2 rp_127_13 (rn_c2 rp_127_14 (rn_c2 rp_127_15 (rn_c2 rp_127_16 (rn_c2 rp_127_17 (rn_c2 rp_127_18 (rn_c2 rp_127_19 (rn_c2 rp_127_20 (rn_c2 rp_127_21 (rn_c2 rp_127_22 (rn_c2 rp_127_23 (rn_c2 rp_127_24 (rn_c2 rp_127_25 (rn_c2 rp_127_26 (rn_c2 rp_127_27 (rn_c2 rp_127_28 (rn_c2 rp_127_29 (rn_c2 rp_127_30 (rn_c2 rp_127_31 (rn_c2 rp_127_32 (rn_c2 rp_127_33 (rn_c2 rp_127_34 (rn_c2 rp_127_35 (rn_c2 rp_127_36 (rn_c2 rp_127_37 (rn_c2 rp_127_38 (rn_c2 rp_127_39 (rn_c2 rp_127_40 (rn_c2 rp_127_41 (rn_c2 rp_127_42 (rn_c2 rp_127_43 (rn_c2 rp_127_44 (rn_c2 rp_127_45 (rn_c2 rp_127_46 (rn_c2 rp_127_47 (rn_c2 rp_127_48 (rn_c2 rp_127_49 (rn_c2 rp_127_50 (rn_c2 rp_127_51 (rn_c2 rp_127_52 (rn_c2 rp_127_53 (rn_c2 rp_127_54 (rn_c2 rp_127_55 (rn_c2 rp_127_56 (rn_c2 rp_127_57 (rn_c2 rp_127_58 (rn_c2 rp_127_59 rn_n2))))))))))))))))))))))))))))))))))))))))))))))))))))))))))))
theorem rp_128_0 : ∀ q ∈ rw_128_0, rn_TS MM RL cL_sleeping 19 ([], "sleeping", some Jvm.ClassFile.FieldType.boolean) q.1 q.2 :=
  rn_n1
theorem rp_128_1 : ∀ q ∈ rw_128_1, rn_TS MM RL cL_sleeping 19 ([], "sleeping", some Jvm.ClassFile.FieldType.boolean) q.1 q.2 :=
  rn_n1
theorem rp_128_2 : ∀ q ∈ rw_128_2, rn_TS MM RL cL_sleeping 19 ([], "sleeping", some Jvm.ClassFile.FieldType.boolean) q.1 q.2 :=
  rn_n1
theorem rp_128_3 : ∀ q ∈ rw_128_3, rn_TS MM RL cL_sleeping 19 ([], "sleeping", some Jvm.ClassFile.FieldType.boolean) q.1 q.2 :=
  rn_n1
theorem rp_128_4 : ∀ q ∈ rw_128_4, rn_TS MM RL cL_sleeping 19 ([], "sleeping", some Jvm.ClassFile.FieldType.boolean) q.1 q.2 :=
  rn_n1
theorem rp_128_5 : ∀ q ∈ rw_128_5, rn_TS MM RL cL_sleeping 19 ([], "sleeping", some Jvm.ClassFile.FieldType.boolean) q.1 q.2 :=
  rn_n1
theorem rp_128_6 : ∀ q ∈ rw_128_6, rn_TS MM RL cL_sleeping 19 ([], "sleeping", some Jvm.ClassFile.FieldType.boolean) q.1 q.2 :=
  rn_n1
theorem rp_128_7 : ∀ q ∈ rw_128_7, rn_TS MM RL cL_sleeping 19 ([], "sleeping", some Jvm.ClassFile.FieldType.boolean) q.1 q.2 :=
  rn_n1
theorem rp_128_8 : ∀ q ∈ rw_128_8, rn_TS MM RL cL_sleeping 19 ([], "sleeping", some Jvm.ClassFile.FieldType.boolean) q.1 q.2 :=
  rn_n1
theorem rp_128_9 : ∀ q ∈ rw_128_9, rn_TS MM RL cL_sleeping 19 ([], "sleeping", some Jvm.ClassFile.FieldType.boolean) q.1 q.2 :=
  rn_n1
theorem rp_128_10 : ∀ q ∈ rw_128_10, rn_TS MM RL cL_sleeping 19 ([], "sleeping", some Jvm.ClassFile.FieldType.boolean) q.1 q.2 :=
  rn_n1
theorem rp_128_11 : ∀ q ∈ rw_128_11, rn_TS MM RL cL_sleeping 19 ([], "sleeping", some Jvm.ClassFile.FieldType.boolean) q.1 q.2 :=
  rn_n1
theorem rp_128_12 : ∀ q ∈ rw_128_12, rn_TS MM RL cL_sleeping 19 ([], "sleeping", some Jvm.ClassFile.FieldType.boolean) q.1 q.2 :=
  rn_n1
theorem rp_128_13 : ∀ q ∈ rw_128_13, rn_TS MM RL cL_sleeping 19 ([], "sleeping", some Jvm.ClassFile.FieldType.boolean) q.1 q.2 :=
  rn_n1
theorem rp_128_14 : ∀ q ∈ rw_128_14, rn_TS MM RL cL_sleeping 19 ([], "sleeping", some Jvm.ClassFile.FieldType.boolean) q.1 q.2 :=
  rn_n1
theorem rp_128_15 : ∀ q ∈ rw_128_15, rn_TS MM RL cL_sleeping 19 ([], "sleeping", some Jvm.ClassFile.FieldType.boolean) q.1 q.2 :=
  rn_n1
theorem rp_128_16 : ∀ q ∈ rw_128_16, rn_TS MM RL cL_sleeping 19 ([], "sleeping", some Jvm.ClassFile.FieldType.boolean) q.1 q.2 :=
  rn_n1
theorem rp_128_17 : ∀ q ∈ rw_128_17, rn_TS MM RL cL_sleeping 19 ([], "sleeping", some Jvm.ClassFile.FieldType.boolean) q.1 q.2 :=
  rn_n1
theorem rp_128_18 : ∀ q ∈ rw_128_18, rn_TS MM RL cL_sleeping 19 ([], "sleeping", some Jvm.ClassFile.FieldType.boolean) q.1 q.2 :=
  rn_n1
theorem rp_128_19 : ∀ q ∈ rw_128_19, rn_TS MM RL cL_sleeping 19 ([], "sleeping", some Jvm.ClassFile.FieldType.boolean) q.1 q.2 :=
  rn_n1
theorem rp_128_20 : ∀ q ∈ rw_128_20, rn_TS MM RL cL_sleeping 19 ([], "sleeping", some Jvm.ClassFile.FieldType.boolean) q.1 q.2 :=
  rn_n1
theorem rp_128_21 : ∀ q ∈ rw_128_21, rn_TS MM RL cL_sleeping 19 ([], "sleeping", some Jvm.ClassFile.FieldType.boolean) q.1 q.2 :=
  rn_n1
theorem rp_128_22 : ∀ q ∈ rw_128_22, rn_TS MM RL cL_sleeping 19 ([], "sleeping", some Jvm.ClassFile.FieldType.boolean) q.1 q.2 :=
  rn_n1
theorem rp_128_23 : ∀ q ∈ rw_128_23, rn_TS MM RL cL_sleeping 19 ([], "sleeping", some Jvm.ClassFile.FieldType.boolean) q.1 q.2 :=
  rn_n1
theorem rp_128_24 : ∀ q ∈ rw_128_24, rn_TS MM RL cL_sleeping 19 ([], "sleeping", some Jvm.ClassFile.FieldType.boolean) q.1 q.2 :=
  rn_n1
theorem rp_128_25 : ∀ q ∈ rw_128_25, rn_TS MM RL cL_sleeping 19 ([], "sleeping", some Jvm.ClassFile.FieldType.boolean) q.1 q.2 :=
  rn_n1
theorem rp_128_26 : ∀ q ∈ rw_128_26, rn_TS MM RL cL_sleeping 19 ([], "sleeping", some Jvm.ClassFile.FieldType.boolean) q.1 q.2 :=
  rn_n1
theorem rp_128_27 : ∀ q ∈ rw_128_27, rn_TS MM RL cL_sleeping 19 ([], "sleeping", some Jvm.ClassFile.FieldType.boolean) q.1 q.2 :=
  rn_n1
theorem rp_128_28 : ∀ q ∈ rw_128_28, rn_TS MM RL cL_sleeping 19 ([], "sleeping", some Jvm.ClassFile.FieldType.boolean) q.1 q.2 :=
  rn_n1
theorem rp_128_29 : ∀ q ∈ rw_128_29, rn_TS MM RL cL_sleeping 19 ([], "sleeping", some Jvm.ClassFile.FieldType.boolean) q.1 q.2 :=
  rn_n1
theorem rp_128_30 : ∀ q ∈ rw_128_30, rn_TS MM RL cL_sleeping 19 ([], "sleeping", some Jvm.ClassFile.FieldType.boolean) q.1 q.2 :=
  rn_n1
theorem rp_128_31 : ∀ q ∈ rw_128_31, rn_TS MM RL cL_sleeping 19 ([], "sleeping", some Jvm.ClassFile.FieldType.boolean) q.1 q.2 :=
  rn_n1
theorem rp_128_32 : ∀ q ∈ rw_128_32, rn_TS MM RL cL_sleeping 19 ([], "sleeping", some Jvm.ClassFile.FieldType.boolean) q.1 q.2 :=
  rn_n1
theorem rp_128_33 : ∀ q ∈ rw_128_33, rn_TS MM RL cL_sleeping 19 ([], "sleeping", some Jvm.ClassFile.FieldType.boolean) q.1 q.2 :=
  rn_n1
theorem rp_128_34 : ∀ q ∈ rw_128_34, rn_TS MM RL cL_sleeping 19 ([], "sleeping", some Jvm.ClassFile.FieldType.boolean) q.1 q.2 :=
  rn_n1
theorem rp_128_35 : ∀ q ∈ rw_128_35, rn_TS MM RL cL_sleeping 19 ([], "sleeping", some Jvm.ClassFile.FieldType.boolean) q.1 q.2 :=
  rn_n1
theorem rp_128_36 : ∀ q ∈ rw_128_36, rn_TS MM RL cL_sleeping 19 ([], "sleeping", some Jvm.ClassFile.FieldType.boolean) q.1 q.2 :=
  rn_n1
theorem rp_128_37 : ∀ q ∈ rw_128_37, rn_TS MM RL cL_sleeping 19 ([], "sleeping", some Jvm.ClassFile.FieldType.boolean) q.1 q.2 :=
  rn_n1
theorem rp_128_38 : ∀ q ∈ rw_128_38, rn_TS MM RL cL_sleeping 19 ([], "sleeping", some Jvm.ClassFile.FieldType.boolean) q.1 q.2 :=
  rn_n1
theorem rp_128_39 : ∀ q ∈ rw_128_39, rn_TS MM RL cL_sleeping 19 ([], "sleeping", some Jvm.ClassFile.FieldType.boolean) q.1 q.2 :=
  rn_n1
theorem rp_128_40 : ∀ q ∈ rw_128_40, rn_TS MM RL cL_sleeping 19 ([], "sleeping", some Jvm.ClassFile.FieldType.boolean) q.1 q.2 :=
  rn_n1
theorem rp_128_41 : ∀ q ∈ rw_128_41, rn_TS MM RL cL_sleeping 19 ([], "sleeping", some Jvm.ClassFile.FieldType.boolean) q.1 q.2 :=
  rn_n1
theorem rp_128_42 : ∀ q ∈ rw_128_42, rn_TS MM RL cL_sleeping 19 ([], "sleeping", some Jvm.ClassFile.FieldType.boolean) q.1 q.2 :=
  rn_n1
theorem rp_128_43 : ∀ q ∈ rw_128_43, rn_TS MM RL cL_sleeping 19 ([], "sleeping", some Jvm.ClassFile.FieldType.boolean) q.1 q.2 :=
  rn_n1
theorem rp_128_44 : ∀ q ∈ rw_128_44, rn_TS MM RL cL_sleeping 19 ([], "sleeping", some Jvm.ClassFile.FieldType.boolean) q.1 q.2 :=
  rn_n1
theorem rp_128_45 : ∀ q ∈ rw_128_45, rn_TS MM RL cL_sleeping 19 ([], "sleeping", some Jvm.ClassFile.FieldType.boolean) q.1 q.2 :=
  rn_n1
theorem rp_128_46 : ∀ q ∈ rw_128_46, rn_TS MM RL cL_sleeping 19 ([], "sleeping", some Jvm.ClassFile.FieldType.boolean) q.1 q.2 :=
  rn_n1
theorem rp_128_47 : ∀ q ∈ rw_128_47, rn_TS MM RL cL_sleeping 19 ([], "sleeping", some Jvm.ClassFile.FieldType.boolean) q.1 q.2 :=
  rn_n1
theorem rp_128_48 : ∀ q ∈ rw_128_48, rn_TS MM RL cL_sleeping 19 ([], "sleeping", some Jvm.ClassFile.FieldType.boolean) q.1 q.2 :=
  rn_n1
theorem rp_128_49 : ∀ q ∈ rw_128_49, rn_TS MM RL cL_sleeping 19 ([], "sleeping", some Jvm.ClassFile.FieldType.boolean) q.1 q.2 :=
  rn_n1
theorem rp_128_50 : ∀ q ∈ rw_128_50, rn_TS MM RL cL_sleeping 19 ([], "sleeping", some Jvm.ClassFile.FieldType.boolean) q.1 q.2 :=
  rn_n1
theorem rp_128_51 : ∀ q ∈ rw_128_51, rn_TS MM RL cL_sleeping 19 ([], "sleeping", some Jvm.ClassFile.FieldType.boolean) q.1 q.2 :=
  rn_n1
theorem rp_128_52 : ∀ q ∈ rw_128_52, rn_TS MM RL cL_sleeping 19 ([], "sleeping", some Jvm.ClassFile.FieldType.boolean) q.1 q.2 :=
  rn_n1
theorem rp_128_53 : ∀ q ∈ rw_128_53, rn_TS MM RL cL_sleeping 19 ([], "sleeping", some Jvm.ClassFile.FieldType.boolean) q.1 q.2 :=
  rn_n1
theorem rp_128_54 : ∀ q ∈ rw_128_54, rn_TS MM RL cL_sleeping 19 ([], "sleeping", some Jvm.ClassFile.FieldType.boolean) q.1 q.2 :=
  rn_n1
theorem rp_128_55 : ∀ q ∈ rw_128_55, rn_TS MM RL cL_sleeping 19 ([], "sleeping", some Jvm.ClassFile.FieldType.boolean) q.1 q.2 :=
  rn_n1
theorem rp_128_56 : ∀ q ∈ rw_128_56, rn_TS MM RL cL_sleeping 19 ([], "sleeping", some Jvm.ClassFile.FieldType.boolean) q.1 q.2 :=
  rn_n1
theorem rp_128_57 : ∀ q ∈ rw_128_57, rn_TS MM RL cL_sleeping 19 ([], "sleeping", some Jvm.ClassFile.FieldType.boolean) q.1 q.2 :=
  rn_n1
theorem rp_128_58 : ∀ q ∈ rw_128_58, rn_TS MM RL cL_sleeping 19 ([], "sleeping", some Jvm.ClassFile.FieldType.boolean) q.1 q.2 :=
  (rn_c1 (rn_st_ok (rn_aload_n (by decide +kernel : decode cL_sleeping 931 = .ok (.aload_n 1, 1)) rfl)) 
  (rn_c1 (rn_st_ok (rn_aload (by decide +kernel : decode cL_sleeping 932 = .ok (.aload 4, 2)))) 
  (rn_c1 (rn_st_ok (rn_iload (by decide +kernel : decode cL_sleeping 934 = .ok (.iload 9, 2)))) 
  (rn_c1 (rn_ca_ok (rn_siS (by decide +kernel : decode cL_sleeping 936 = .ok (.invokestatic 191, 3)) rfl cw_23 aw_1322 (rn_lc aw_1320 (rn_lc aw_1321 (rn_l1 aw_0)))) rfl rfl (rn_h0n rfl) rn_h0t) 
  (rn_c1 (rn_st_ok (rn_ifc (by decide +kernel : decode cL_sleeping 939 = .ok (.ifCond .ne 5, 3)) rfl)) 
  (rn_c1 (rn_st_ok (rn_iconst (by decide +kernel : decode cL_sleeping 942 = .ok (.iconst 0, 1)) rfl)) 
  (rn_c1 (rn_ret (by decide +kernel : decode cL_sleeping 943 = .ok (.ireturn, 1)) rfl (Or.inr (Or.inr (Or.inl ⟨rfl, rfl⟩))) (Or.inr (Or.inr ⟨Or.inr rfl, rfl⟩))) rn_n1)))))))
theorem rp_128_59 : ∀ q ∈ rw_128_59, rn_TS MM RL cL_sleeping 19 ([], "sleeping", some Jvm.ClassFile.FieldType.boolean) q.1 q.2 :=
  (rn_c1 (rn_st_ok (rn_iinc (by decide +kernel : decode cL_sleeping 944 = .ok (.iinc 11 1, 3)) rfl (by decide))) 
  (rn_c1 (rn_cg_ok (by decide +kernel : decode cL_sleeping 947 = .ok (.goto (-648), 3)) rfl) 
  (rn_c1 (rn_st_ok (rn_aload_n (by decide +kernel : decode cL_sleeping 950 = .ok (.aload_n 1, 1)) rfl)) 
  (rn_c1 (rn_ca_ok (rn_siV (ci := 8) rfl (by decide +kernel : decode cL_sleeping 951 = .ok (.invokevirtual 170, 3)) rfl rfl cw_120 aw_141 (rn_lc aw_138 (rn_lc aw_139 (rn_lc aw_140 (rn_l1 aw_1))))) rfl rfl (rn_h0n rfl) rn_h0t) 
  (rn_c1 (rn_ret (by decide +kernel : decode cL_sleeping 954 = .ok (.ireturn, 1)) rfl (Or.inr (Or.inr (Or.inl ⟨rfl, rfl⟩))) (Or.inr (Or.inr ⟨Or.inr rfl, rfl⟩))) rn_n1)))))
theorem tp_128 : ∀ row ∈ tb_128, ∀ q ∈ row, rn_TS MM RL cL_sleeping 19 ([], "sleeping", some Jvm.ClassFile.FieldType.boolean) q.1 q.2 := (rn_c2 rp_128_0 (rn_c2 rp_128_1 (rn_c2 rp_128_2 (rn_c2 rp_128_3 (rn_c2 rp_128_4 (rn_c2 rp_128_5 (rn_c2 rp_128_6 (rn_c2 rp_128_7 (rn_c2 rp_128_8 (rn_c2 rp_128_9 (rn_c2 rp_128_10 (rn_c2 rp_128_11 (rn_c2 rp_128_12 (rn_c2 rp_128_13 (rn_c2 rp_128_14 (rn_c2 rp_128_15 (rn_c2 rp_128_16 (rn_c2 rp_128_17 (rn_c2 rp_128_18 (rn_c2 rp_128_19 (rn_c2 rp_128_20 (rn_c2 rp_128_21 (rn_c2 rp_128_22 (rn_c2 rp_128_23 (rn_c2 rp_128_24 (rn_c2 rp_128_25 (rn_c2 rp_128_26 (rn_c2 rp_128_27 (rn_c2 rp_128_28 (rn_c2 rp_128_29 (rn_c2 rp_128_30 (rn_c2 rp_128_31 (rn_c2 rp_128_32 (rn_c2 rp_128_33 (rn_c2 rp_128_34 (rn_c2 rp_128_35 (rn_c2 rp_128_36 (rn_c2 rp_128_37 (rn_c2 rp_128_38 (rn_c2 rp_128_39 (rn_c2 rp_128_40 (rn_c2 rp_128_41 (rn_c2 rp_128_42 (rn_c2 rp_128_43 (rn_c2 rp_128_44 (rn_c2 rp_128_45 (rn_c2 rp_128_46 (rn_c2 rp_128_47 (rn_c2 rp_128_48 (rn_c2 rp_128_49 (rn_c2 rp_128_50 (rn_c2 rp_128_51 (rn_c2 rp_128_52 (rn_c2 rp_128_53 (rn_c2 rp_128_54 (rn_c2 rp_128_55 (rn_c2 rp_128_56 (rn_c2 rp_128_57 (rn_c2 rp_128_58 (rn_c2 rp_128_59 rn_n2))))))))))))))))))))))))))))))))))))))))))))))))))))))))))))
theorem rp_129_0 : ∀ q ∈ rw_129_0, rn_TS MM RL cL_sleeping 19 ([], "sleeping", some Jvm.ClassFile.FieldType.boolean) q.1 q.2 :=
  (rn_c1 (rn_st_ok (rn_new rc_8 (by decide +kernel : decode cL_sleeping 0 = .ok (.new 8, 3)) aw_35 aw_36 aw_1 rfl (by decide +kernel))) 
  (rn_c1 (rn_st_ok (rn_dup (by decide +kernel : decode cL_sleeping 3 = .ok (.dup, 1)))) 
  (rn_c1 (rn_ca_ok (rn_siI (ci := 8) (by decide +kernel : decode cL_sleeping 4 = .ok (.invokespecial 155, 3)) rfl rfl rfl cw_73 aw_39 (rn_lc aw_37 (rn_l1 aw_38))) rfl rfl (rn_h0n rfl) rn_h0t) 
  (rn_c1 (rn_st_ok (rn_astore_n (by decide +kernel : decode cL_sleeping 7 = .ok (.astore_n 1, 1)) rfl (by decide))) 
  (rn_c1 (rn_st_ok (rn_iconst (by decide +kernel : decode cL_sleeping 8 = .ok (.iconst 1, 1)) rfl)) 
  (rn_c1 (rn_st_ok (rn_aload_n (by decide +kernel : decode cL_sleeping 9 = .ok (.aload_n 0, 1)) rfl)) 
  (rn_c1 (rn_st_ok (rn_iconst (by decide +kernel : decode cL_sleeping 10 = .ok (.iconst 0, 1)) rfl)) 
  (rn_c1 (rn_ca_ok (rn_siS (by decide +kernel : decode cL_sleeping 11 = .ok (.invokestatic 183, 3)) rfl cw_67 aw_1315 (rn_lc aw_1313 (rn_lc aw_1314 (rn_l1 aw_0)))) rfl rfl (rn_h0n rfl) rn_h0t) 
  (rn_c1 (rn_st_ok (rn_bipush (by decide +kernel : decode cL_sleeping 14 = .ok (.bipush 6, 2)) rfl)) rn_n1)))))))))
theorem rp_129_1 : ∀ q ∈ rw_129_1, rn_TS MM RL cL_sleeping 19 ([], "sleeping", some Jvm.ClassFile.FieldType.boolean) q.1 q.2 :=
  (rn_c1 (rn_ca_ok (rn_siS (by decide +kernel : decode cL_sleeping 16 = .ok (.invokestatic 187, 3)) rfl cw_68 aw_1318 (rn_lc aw_1316 (rn_lc aw_1317 (rn_l1 aw_0)))) rfl rfl (rn_h0n rfl) rn_h0t) 
  (rn_c1 (rn_st_ok (rn_iadd (by decide +kernel : decode cL_sleeping 19 = .ok (.iadd, 1)))) 
  (rn_c1 (rn_st_ok (rn_istore_n (by decide +kernel : decode cL_sleeping 20 = .ok (.istore_n 2, 1)) rfl (by decide))) 
  (rn_c1 (rn_st_ok (rn_iconst (by decide +kernel : decode cL_sleeping 21 = .ok (.iconst 1, 1)) rfl)) 
  (rn_c1 (rn_st_ok (rn_aload_n (by decide +kernel : decode cL_sleeping 22 = .ok (.aload_n 0, 1)) rfl)) 
  (rn_c1 (rn_st_ok (rn_iconst (by decide +kernel : decode cL_sleeping 23 = .ok (.iconst 1, 1)) rfl)) 
  (rn_c1 (rn_ca_ok (rn_siS (by decide +kernel : decode cL_sleeping 24 = .ok (.invokestatic 183, 3)) rfl cw_67 aw_1315 (rn_lc aw_1313 (rn_lc aw_1314 (rn_l1 aw_0)))) rfl rfl (rn_h0n rfl) rn_h0t) 
  (rn_c1 (rn_st_ok (rn_iconst (by decide +kernel : decode cL_sleeping 27 = .ok (.iconst 4, 1)) rfl)) 
  (rn_c1 (rn_ca_ok (rn_siS (by decide +kernel : decode cL_sleeping 28 = .ok (.invokestatic 187, 3)) rfl cw_68 aw_1318 (rn_lc aw_1316 (rn_lc aw_1317 (rn_l1 aw_0)))) rfl rfl (rn_h0n rfl) rn_h0t) 
  (rn_c1 (rn_st_ok (rn_iadd (by decide +kernel : decode cL_sleeping 31 = .ok (.iadd, 1)))) rn_n1))))))))))
theorem rp_129_2 : ∀ q ∈ rw_129_2, rn_TS MM RL cL_sleeping 19 ([], "sleeping", some Jvm.ClassFile.FieldType.boolean) q.1 q.2 :=
  (rn_c1 (rn_st_ok (rn_istore_n (by decide +kernel : decode cL_sleeping 32 = .ok (.istore_n 3, 1)) rfl (by decide))) 
  (rn_c1 (rn_cu_ok) rn_n1))
theorem tp_129 : ∀ row ∈ tb_129, ∀ q ∈ row, rn_TS MM RL cL_sleeping 19 ([], "sleeping", some Jvm.ClassFile.FieldType.boolean) q.1 q.2 := (rn_c2 rp_129_0 (rn_c2 rp_129_1 (rn_c2 rp_129_2 rn_n2)))
theorem rp_130_0 : ∀ q ∈ rw_130_0, rn_TS MM RL cL_law 2 ([], "law", some .boolean) q.1 q.2 :=
  rn_n1
theorem rp_130_1 : ∀ q ∈ rw_130_1, rn_TS MM RL cL_law 2 ([], "law", some .boolean) q.1 q.2 :=
  rn_n1
theorem rp_130_2 : ∀ q ∈ rw_130_2, rn_TS MM RL cL_law 2 ([], "law", some .boolean) q.1 q.2 :=
  rn_n1
theorem rp_130_3 : ∀ q ∈ rw_130_3, rn_TS MM RL cL_law 2 ([], "law", some .boolean) q.1 q.2 :=
  rn_n1
theorem rp_130_4 : ∀ q ∈ rw_130_4, rn_TS MM RL cL_law 2 ([], "law", some .boolean) q.1 q.2 :=
  rn_n1
theorem rp_130_5 : ∀ q ∈ rw_130_5, rn_TS MM RL cL_law 2 ([], "law", some .boolean) q.1 q.2 :=
  rn_n1
theorem rp_130_6 : ∀ q ∈ rw_130_6, rn_TS MM RL cL_law 2 ([], "law", some .boolean) q.1 q.2 :=
  rn_n1
theorem rp_130_7 : ∀ q ∈ rw_130_7, rn_TS MM RL cL_law 2 ([], "law", some .boolean) q.1 q.2 :=
  rn_n1
theorem rp_130_8 : ∀ q ∈ rw_130_8, rn_TS MM RL cL_law 2 ([], "law", some .boolean) q.1 q.2 :=
  rn_n1
theorem rp_130_9 : ∀ q ∈ rw_130_9, rn_TS MM RL cL_law 2 ([], "law", some .boolean) q.1 q.2 :=
  rn_n1
theorem rp_130_10 : ∀ q ∈ rw_130_10, rn_TS MM RL cL_law 2 ([], "law", some .boolean) q.1 q.2 :=
  rn_n1
theorem rp_130_11 : ∀ q ∈ rw_130_11, rn_TS MM RL cL_law 2 ([], "law", some .boolean) q.1 q.2 :=
  rn_n1
theorem rp_130_12 : ∀ q ∈ rw_130_12, rn_TS MM RL cL_law 2 ([], "law", some .boolean) q.1 q.2 :=
  rn_n1
theorem rp_130_13 : ∀ q ∈ rw_130_13, rn_TS MM RL cL_law 2 ([], "law", some .boolean) q.1 q.2 :=
  rn_n1
theorem rp_130_14 : ∀ q ∈ rw_130_14, rn_TS MM RL cL_law 2 ([], "law", some .boolean) q.1 q.2 :=
  rn_n1
theorem rp_130_15 : ∀ q ∈ rw_130_15, rn_TS MM RL cL_law 2 ([], "law", some .boolean) q.1 q.2 :=
  rn_n1
theorem rp_130_16 : ∀ q ∈ rw_130_16, rn_TS MM RL cL_law 2 ([], "law", some .boolean) q.1 q.2 :=
  rn_n1
theorem rp_130_17 : ∀ q ∈ rw_130_17, rn_TS MM RL cL_law 2 ([], "law", some .boolean) q.1 q.2 :=
  rn_n1
theorem rp_130_18 : ∀ q ∈ rw_130_18, rn_TS MM RL cL_law 2 ([], "law", some .boolean) q.1 q.2 :=
  rn_n1
theorem rp_130_19 : ∀ q ∈ rw_130_19, rn_TS MM RL cL_law 2 ([], "law", some .boolean) q.1 q.2 :=
  rn_n1
theorem rp_130_20 : ∀ q ∈ rw_130_20, rn_TS MM RL cL_law 2 ([], "law", some .boolean) q.1 q.2 :=
  rn_n1
theorem rp_130_21 : ∀ q ∈ rw_130_21, rn_TS MM RL cL_law 2 ([], "law", some .boolean) q.1 q.2 :=
  rn_n1
theorem rp_130_22 : ∀ q ∈ rw_130_22, rn_TS MM RL cL_law 2 ([], "law", some .boolean) q.1 q.2 :=
  rn_n1
theorem rp_130_23 : ∀ q ∈ rw_130_23, rn_TS MM RL cL_law 2 ([], "law", some .boolean) q.1 q.2 :=
  rn_n1
theorem rp_130_24 : ∀ q ∈ rw_130_24, rn_TS MM RL cL_law 2 ([], "law", some .boolean) q.1 q.2 :=
  rn_n1
theorem rp_130_25 : ∀ q ∈ rw_130_25, rn_TS MM RL cL_law 2 ([], "law", some .boolean) q.1 q.2 :=
  rn_n1
theorem rp_130_26 : ∀ q ∈ rw_130_26, rn_TS MM RL cL_law 2 ([], "law", some .boolean) q.1 q.2 :=
  rn_n1
theorem rp_130_27 : ∀ q ∈ rw_130_27, rn_TS MM RL cL_law 2 ([], "law", some .boolean) q.1 q.2 :=
  rn_n1
theorem rp_130_28 : ∀ q ∈ rw_130_28, rn_TS MM RL cL_law 2 ([], "law", some .boolean) q.1 q.2 :=
  rn_n1
theorem rp_130_29 : ∀ q ∈ rw_130_29, rn_TS MM RL cL_law 2 ([], "law", some .boolean) q.1 q.2 :=
  rn_n1
theorem rp_130_30 : ∀ q ∈ rw_130_30, rn_TS MM RL cL_law 2 ([], "law", some .boolean) q.1 q.2 :=
  rn_n1
theorem rp_130_31 : ∀ q ∈ rw_130_31, rn_TS MM RL cL_law 2 ([], "law", some .boolean) q.1 q.2 :=
  rn_n1
theorem rp_130_32 : ∀ q ∈ rw_130_32, rn_TS MM RL cL_law 2 ([], "law", some .boolean) q.1 q.2 :=
  rn_n1
theorem rp_130_33 : ∀ q ∈ rw_130_33, rn_TS MM RL cL_law 2 ([], "law", some .boolean) q.1 q.2 :=
  rn_n1
theorem rp_130_34 : ∀ q ∈ rw_130_34, rn_TS MM RL cL_law 2 ([], "law", some .boolean) q.1 q.2 :=
  rn_n1
theorem rp_130_35 : ∀ q ∈ rw_130_35, rn_TS MM RL cL_law 2 ([], "law", some .boolean) q.1 q.2 :=
  rn_n1
theorem rp_130_36 : ∀ q ∈ rw_130_36, rn_TS MM RL cL_law 2 ([], "law", some .boolean) q.1 q.2 :=
  rn_n1
theorem rp_130_37 : ∀ q ∈ rw_130_37, rn_TS MM RL cL_law 2 ([], "law", some .boolean) q.1 q.2 :=
  rn_n1
theorem rp_130_38 : ∀ q ∈ rw_130_38, rn_TS MM RL cL_law 2 ([], "law", some .boolean) q.1 q.2 :=
  rn_n1
theorem rp_130_39 : ∀ q ∈ rw_130_39, rn_TS MM RL cL_law 2 ([], "law", some .boolean) q.1 q.2 :=
  rn_n1
theorem rp_130_40 : ∀ q ∈ rw_130_40, rn_TS MM RL cL_law 2 ([], "law", some .boolean) q.1 q.2 :=
  rn_n1
theorem rp_130_41 : ∀ q ∈ rw_130_41, rn_TS MM RL cL_law 2 ([], "law", some .boolean) q.1 q.2 :=
  rn_n1
theorem rp_130_42 : ∀ q ∈ rw_130_42, rn_TS MM RL cL_law 2 ([], "law", some .boolean) q.1 q.2 :=
  rn_n1
theorem rp_130_43 : ∀ q ∈ rw_130_43, rn_TS MM RL cL_law 2 ([], "law", some .boolean) q.1 q.2 :=
  rn_n1
theorem rp_130_44 : ∀ q ∈ rw_130_44, rn_TS MM RL cL_law 2 ([], "law", some .boolean) q.1 q.2 :=
  rn_n1
theorem rp_130_45 : ∀ q ∈ rw_130_45, rn_TS MM RL cL_law 2 ([], "law", some .boolean) q.1 q.2 :=
  rn_n1
theorem rp_130_46 : ∀ q ∈ rw_130_46, rn_TS MM RL cL_law 2 ([], "law", some .boolean) q.1 q.2 :=
  rn_n1
theorem rp_130_47 : ∀ q ∈ rw_130_47, rn_TS MM RL cL_law 2 ([], "law", some .boolean) q.1 q.2 :=
  rn_n1
theorem rp_130_48 : ∀ q ∈ rw_130_48, rn_TS MM RL cL_law 2 ([], "law", some .boolean) q.1 q.2 :=
  rn_n1
theorem rp_130_49 : ∀ q ∈ rw_130_49, rn_TS MM RL cL_law 2 ([], "law", some .boolean) q.1 q.2 :=
  (rn_c1 (rn_ca_ok (rn_siS (by decide +kernel : decode cL_law 790 = .ok (.invokestatic 179, 3)) rfl cw_69 aw_1312 (rn_lc aw_1310 (rn_lc aw_1311 (rn_l1 aw_0)))) rfl rfl (rn_h0n rfl) rn_h0t) 
  (rn_c1 (rn_st_ok (rn_ifc (by decide +kernel : decode cL_law 793 = .ok (.ifCond .eq 7, 3)) rfl)) 
  (rn_c1 (rn_st_ok (rn_iconst (by decide +kernel : decode cL_law 796 = .ok (.iconst 1, 1)) rfl)) 
  (rn_c1 (rn_st_ok (rn_goto (by decide +kernel : decode cL_law 797 = .ok (.goto 4, 3)) rfl)) rn_n1))))
theorem rp_130_50 : ∀ q ∈ rw_130_50, rn_TS MM RL cL_law 2 ([], "law", some .boolean) q.1 q.2 :=
  (rn_c1 (rn_st_ok (rn_iconst (by decide +kernel : decode cL_law 800 = .ok (.iconst 0, 1)) rfl)) 
  (rn_c1 (rn_ret (by decide +kernel : decode cL_law 801 = .ok (.ireturn, 1)) rfl (Or.inr (Or.inr (Or.inl ⟨rfl, rfl⟩))) (Or.inr (Or.inr ⟨Or.inr rfl, rfl⟩))) rn_n1))
theorem tp_130 : ∀ row ∈ tb_130, ∀ q ∈ row, rn_TS MM RL cL_law 2 ([], "law", some .boolean) q.1 q.2 := (rn_c2 rp_130_0 (rn_c2 rp_130_1 (rn_c2 rp_130_2 (rn_c2 rp_130_3 (rn_c2 rp_130_4 (rn_c2 rp_130_5 (rn_c2 rp_130_6 (rn_c2 rp_130_7 (rn_c2 rp_130_8 (rn_c2 rp_130_9 (rn_c2 rp_130_10 (rn_c2 rp_130_11 (rn_c2 rp_130_12 (rn_c2 rp_130_13 (rn_c2 rp_130_14 (rn_c2 rp_130_15 (rn_c2 rp_130_16 (rn_c2 rp_130_17 (rn_c2 rp_130_18 (rn_c2 rp_130_19 (rn_c2 rp_130_20 (rn_c2 rp_130_21 (rn_c2 rp_130_22 (rn_c2 rp_130_23 (rn_c2 rp_130_24 (rn_c2 rp_130_25 (rn_c2 rp_130_26 (rn_c2 rp_130_27 (rn_c2 rp_130_28 (rn_c2 rp_130_29 (rn_c2 rp_130_30 (rn_c2 rp_130_31 (rn_c2 rp_130_32 (rn_c2 rp_130_33 (rn_c2 rp_130_34 (rn_c2 rp_130_35 (rn_c2 rp_130_36 (rn_c2 rp_130_37 (rn_c2 rp_130_38 (rn_c2 rp_130_39 (rn_c2 rp_130_40 (rn_c2 rp_130_41 (rn_c2 rp_130_42 (rn_c2 rp_130_43 (rn_c2 rp_130_44 (rn_c2 rp_130_45 (rn_c2 rp_130_46 (rn_c2 rp_130_47 (rn_c2 rp_130_48 (rn_c2 rp_130_49 (rn_c2 rp_130_50 rn_n2)))))))))))))))))))))))))))))))))))))))))))))))))))
theorem rp_131_0 : ∀ q ∈ rw_131_0, rn_TS MM RL cL_sleeping 19 ([], "sleeping", some Jvm.ClassFile.FieldType.boolean) q.1 q.2 :=
  rn_n1
theorem rp_131_1 : ∀ q ∈ rw_131_1, rn_TS MM RL cL_sleeping 19 ([], "sleeping", some Jvm.ClassFile.FieldType.boolean) q.1 q.2 :=
  rn_n1
theorem rp_131_2 : ∀ q ∈ rw_131_2, rn_TS MM RL cL_sleeping 19 ([], "sleeping", some Jvm.ClassFile.FieldType.boolean) q.1 q.2 :=
  rn_n1
theorem rp_131_3 : ∀ q ∈ rw_131_3, rn_TS MM RL cL_sleeping 19 ([], "sleeping", some Jvm.ClassFile.FieldType.boolean) q.1 q.2 :=
  rn_n1
theorem rp_131_4 : ∀ q ∈ rw_131_4, rn_TS MM RL cL_sleeping 19 ([], "sleeping", some Jvm.ClassFile.FieldType.boolean) q.1 q.2 :=
  rn_n1
theorem rp_131_5 : ∀ q ∈ rw_131_5, rn_TS MM RL cL_sleeping 19 ([], "sleeping", some Jvm.ClassFile.FieldType.boolean) q.1 q.2 :=
  rn_n1
theorem rp_131_6 : ∀ q ∈ rw_131_6, rn_TS MM RL cL_sleeping 19 ([], "sleeping", some Jvm.ClassFile.FieldType.boolean) q.1 q.2 :=
  rn_n1
theorem rp_131_7 : ∀ q ∈ rw_131_7, rn_TS MM RL cL_sleeping 19 ([], "sleeping", some Jvm.ClassFile.FieldType.boolean) q.1 q.2 :=
  rn_n1
theorem rp_131_8 : ∀ q ∈ rw_131_8, rn_TS MM RL cL_sleeping 19 ([], "sleeping", some Jvm.ClassFile.FieldType.boolean) q.1 q.2 :=
  rn_n1
theorem rp_131_9 : ∀ q ∈ rw_131_9, rn_TS MM RL cL_sleeping 19 ([], "sleeping", some Jvm.ClassFile.FieldType.boolean) q.1 q.2 :=
  (rn_c1 (rn_st_ok (rn_iload (by decide +kernel : decode cL_sleeping 153 = .ok (.iload 5, 2)))) 
  (rn_c1 (rn_st_ok (rn_iload_n (by decide +kernel : decode cL_sleeping 155 = .ok (.iload_n 3, 1)) rfl)) 
  (rn_c1 (rn_st_ok (rn_icmp (by decide +kernel : decode cL_sleeping 156 = .ok (.if_icmp .ge 113, 3)) rfl)) 
  (rn_c1 (rn_st_ok (rn_aload (by decide +kernel : decode cL_sleeping 159 = .ok (.aload 4, 2)))) rn_n1))))
theorem rp_131_10 : ∀ q ∈ rw_131_10, rn_TS MM RL cL_sleeping 19 ([], "sleeping", some Jvm.ClassFile.FieldType.boolean) q.1 q.2 :=
  (rn_c1 (rn_st_ok (rn_iload (by decide +kernel : decode cL_sleeping 161 = .ok (.iload 5, 2)))) 
  (rn_c1 (rn_st_ok (rn_aload_n (by decide +kernel : decode cL_sleeping 163 = .ok (.aload_n 0, 1)) rfl)) 
  (rn_c1 (rn_st_ok (rn_iconst (by decide +kernel : decode cL_sleeping 164 = .ok (.iconst 3, 1)) rfl)) 
  (rn_c1 (rn_st_ok (rn_iload (by decide +kernel : decode cL_sleeping 165 = .ok (.iload 5, 2)))) 
  (rn_c1 (rn_st_ok (rn_iadd (by decide +kernel : decode cL_sleeping 167 = .ok (.iadd, 1)))) 
  (rn_c1 (rn_ca_ok (rn_siS (by decide +kernel : decode cL_sleeping 168 = .ok (.invokestatic 183, 3)) rfl cw_67 aw_1315 (rn_lc aw_1313 (rn_lc aw_1314 (rn_l1 aw_0)))) rfl rfl (rn_h0n rfl) rn_h0t) 
  (rn_c1 (rn_st_ok (rn_iconst (by decide +kernel : decode cL_sleeping 171 = .ok (.iconst 2, 1)) rfl)) 
  (rn_c1 (rn_ca_ok (rn_siS (by decide +kernel : decode cL_sleeping 172 = .ok (.invokestatic 187, 3)) rfl cw_68 aw_1318 (rn_lc aw_1316 (rn_lc aw_1317 (rn_l1 aw_0)))) rfl rfl (rn_h0n rfl) rn_h0t) 
  (rn_c1 (rn_st_ok (rn_ifc (by decide +kernel : decode cL_sleeping 175 = .ok (.ifCond .ne 7, 3)) rfl)) rn_n1)))))))))
theorem rp_131_11 : ∀ q ∈ rw_131_11, rn_TS MM RL cL_sleeping 19 ([], "sleeping", some Jvm.ClassFile.FieldType.boolean) q.1 q.2 :=
  (rn_c1 (rn_st_ok (rn_iconst (by decide +kernel : decode cL_sleeping 178 = .ok (.iconst 1, 1)) rfl)) 
  (rn_c1 (rn_st_ok (rn_goto (by decide +kernel : decode cL_sleeping 179 = .ok (.goto 4, 3)) rfl)) 
  (rn_c1 (rn_st_ok (rn_iconst (by decide +kernel : decode cL_sleeping 182 = .ok (.iconst 0, 1)) rfl)) 
  (rn_c1 (rn_st_ok (rn_bastore (by decide +kernel : decode cL_sleeping 183 = .ok (.bastore, 1)))) 
  (rn_c1 (rn_st_ok (rn_aload_n (by decide +kernel : decode cL_sleeping 184 = .ok (.aload_n 1, 1)) rfl)) 
  (rn_c1 (rn_st_ok (rn_bipush (by decide +kernel : decode cL_sleeping 185 = .ok (.bipush 68, 2)) rfl)) 
  (rn_c1 (rn_st_ok (rn_iconst (by decide +kernel : decode cL_sleeping 187 = .ok (.iconst 3, 1)) rfl)) 
  (rn_c1 (rn_st_ok (rn_newI (by decide +kernel : decode cL_sleeping 188 = .ok (.newarray .int, 2)) aw_353)) 
  (rn_c1 (rn_st_ok (rn_dup (by decide +kernel : decode cL_sleeping 190 = .ok (.dup, 1)))) 
  (rn_c1 (rn_st_ok (rn_iconst (by decide +kernel : decode cL_sleeping 191 = .ok (.iconst 0, 1)) rfl)) rn_n1))))))))))
theorem rp_131_12 : ∀ q ∈ rw_131_12, rn_TS MM RL cL_sleeping 19 ([], "sleeping", some Jvm.ClassFile.FieldType.boolean) q.1 q.2 :=
  (rn_c1 (rn_st_ok (rn_iconst (by decide +kernel : decode cL_sleeping 192 = .ok (.iconst 0, 1)) rfl)) 
  (rn_c1 (rn_st_ok (rn_iastore (by decide +kernel : decode cL_sleeping 193 = .ok (.iastore, 1)))) 
  (rn_c1 (rn_st_ok (rn_dup (by decide +kernel : decode cL_sleeping 194 = .ok (.dup, 1)))) 
  (rn_c1 (rn_st_ok (rn_iconst (by decide +kernel : decode cL_sleeping 195 = .ok (.iconst 1, 1)) rfl)) 
  (rn_c1 (rn_st_ok (rn_iconst (by decide +kernel : decode cL_sleeping 196 = .ok (.iconst 0, 1)) rfl)) 
  (rn_c1 (rn_st_ok (rn_iastore (by decide +kernel : decode cL_sleeping 197 = .ok (.iastore, 1)))) 
  (rn_c1 (rn_st_ok (rn_dup (by decide +kernel : decode cL_sleeping 198 = .ok (.dup, 1)))) 
  (rn_c1 (rn_st_ok (rn_iconst (by decide +kernel : decode cL_sleeping 199 = .ok (.iconst 2, 1)) rfl)) 
  (rn_c1 (rn_st_ok (rn_iconst (by decide +kernel : decode cL_sleeping 200 = .ok (.iconst 0, 1)) rfl)) 
  (rn_c1 (rn_st_ok (rn_iastore (by decide +kernel : decode cL_sleeping 201 = .ok (.iastore, 1)))) 
  (rn_c1 (rn_ca_ok (rn_siSX (by decide +kernel : decode cL_sleeping 202 = .ok (.invokestatic 173, 3)) rfl cw_5 aw_177 (rn_lc aw_175 (rn_lc aw_176 (rn_l1 aw_0)))) rfl rfl (rn_h0n rfl) rn_h0t) 
  (rn_c1 (rn_st_ok (rn_iload (by decide +kernel : decode cL_sleeping 205 = .ok (.iload 5, 2)))) 
  (rn_c1 (rn_st_ok (rn_icmp (by decide +kernel : decode cL_sleeping 207 = .ok (.if_icmp .ne 54, 3)) rfl)) rn_n1)))))))))))))
theorem rp_131_13 : ∀ q ∈ rw_131_13, rn_TS MM RL cL_sleeping 19 ([], "sleeping", some Jvm.ClassFile.FieldType.boolean) q.1 q.2 :=
  (rn_c1 (rn_st_ok (rn_aload (by decide +kernel : decode cL_sleeping 210 = .ok (.aload 4, 2)))) 
  (rn_c1 (rn_st_ok (rn_iload (by decide +kernel : decode cL_sleeping 212 = .ok (.iload 5, 2)))) 
  (rn_c1 (rn_st_ok (rn_baload (by decide +kernel : decode cL_sleeping 214 = .ok (.baload, 1)))) 
  (rn_c1 (rn_st_ok (rn_ifc (by decide +kernel : decode cL_sleeping 215 = .ok (.ifCond .eq 48, 3)) rfl)) 
  (rn_c1 (rn_st_ok (rn_aload_n (by decide +kernel : decode cL_sleeping 218 = .ok (.aload_n 1, 1)) rfl)) 
  (rn_c1 (rn_st_ok (rn_bipush (by decide +kernel : decode cL_sleeping 219 = .ok (.bipush 103, 2)) rfl)) 
  (rn_c1 (rn_st_ok (rn_iconst (by decide +kernel : decode cL_sleeping 221 = .ok (.iconst 1, 1)) rfl)) 
  (rn_c1 (rn_st_ok (rn_newI (by decide +kernel : decode cL_sleeping 222 = .ok (.newarray .int, 2)) aw_353)) rn_n1))))))))
theorem rp_131_14 : ∀ q ∈ rw_131_14, rn_TS MM RL cL_sleeping 19 ([], "sleeping", some Jvm.ClassFile.FieldType.boolean) q.1 q.2 :=
  (rn_c1 (rn_st_ok (rn_dup (by decide +kernel : decode cL_sleeping 224 = .ok (.dup, 1)))) 
  (rn_c1 (rn_st_ok (rn_iconst (by decide +kernel : decode cL_sleeping 225 = .ok (.iconst 0, 1)) rfl)) 
  (rn_c1 (rn_st_ok (rn_iload (by decide +kernel : decode cL_sleeping 226 = .ok (.iload 5, 2)))) 
  (rn_c1 (rn_st_ok (rn_iastore (by decide +kernel : decode cL_sleeping 228 = .ok (.iastore, 1)))) 
  (rn_c1 (rn_ca_ok (rn_siSX (by decide +kernel : decode cL_sleeping 229 = .ok (.invokestatic 173, 3)) rfl cw_5 aw_177 (rn_lc aw_175 (rn_lc aw_176 (rn_l1 aw_0)))) rfl rfl (rn_h0n rfl) rn_h0t) 
  (rn_c1 (rn_st_ok (rn_iconst (by decide +kernel : decode cL_sleeping 232 = .ok (.iconst 1, 1)) rfl)) 
  (rn_c1 (rn_st_ok (rn_icmp (by decide +kernel : decode cL_sleeping 233 = .ok (.if_icmp .ne 28, 3)) rfl)) 
  (rn_c1 (rn_st_ok (rn_aload_n (by decide +kernel : decode cL_sleeping 236 = .ok (.aload_n 1, 1)) rfl)) 
  (rn_c1 (rn_st_ok (rn_bipush (by decide +kernel : decode cL_sleeping 237 = .ok (.bipush 87, 2)) rfl)) 
  (rn_c1 (rn_st_ok (rn_iconst (by decide +kernel : decode cL_sleeping 239 = .ok (.iconst 2, 1)) rfl)) rn_n1))))))))))
theorem rp_131_15 : ∀ q ∈ rw_131_15, rn_TS MM RL cL_sleeping 19 ([], "sleeping", some Jvm.ClassFile.FieldType.boolean) q.1 q.2 :=
  (rn_c1 (rn_st_ok (rn_newI (by decide +kernel : decode cL_sleeping 240 = .ok (.newarray .int, 2)) aw_353)) 
  (rn_c1 (rn_st_ok (rn_dup (by decide +kernel : decode cL_sleeping 242 = .ok (.dup, 1)))) 
  (rn_c1 (rn_st_ok (rn_iconst (by decide +kernel : decode cL_sleeping 243 = .ok (.iconst 0, 1)) rfl)) 
  (rn_c1 (rn_st_ok (rn_iload (by decide +kernel : decode cL_sleeping 244 = .ok (.iload 5, 2)))) 
  (rn_c1 (rn_st_ok (rn_iastore (by decide +kernel : decode cL_sleeping 246 = .ok (.iastore, 1)))) 
  (rn_c1 (rn_st_ok (rn_dup (by decide +kernel : decode cL_sleeping 247 = .ok (.dup, 1)))) 
  (rn_c1 (rn_st_ok (rn_iconst (by decide +kernel : decode cL_sleeping 248 = .ok (.iconst 1, 1)) rfl)) 
  (rn_c1 (rn_st_ok (rn_bipush (by decide +kernel : decode cL_sleeping 249 = .ok (.bipush 100, 2)) rfl)) 
  (rn_c1 (rn_st_ok (rn_iload (by decide +kernel : decode cL_sleeping 251 = .ok (.iload 5, 2)))) 
  (rn_c1 (rn_st_ok (rn_iadd (by decide +kernel : decode cL_sleeping 253 = .ok (.iadd, 1)))) 
  (rn_c1 (rn_st_ok (rn_iastore (by decide +kernel : decode cL_sleeping 254 = .ok (.iastore, 1)))) 
  (rn_c1 (rn_ca_ok (rn_siSX (by decide +kernel : decode cL_sleeping 255 = .ok (.invokestatic 173, 3)) rfl cw_5 aw_177 (rn_lc aw_175 (rn_lc aw_176 (rn_l1 aw_0)))) rfl rfl (rn_h0n rfl) rn_h0t) rn_n1))))))))))))
theorem rp_131_16 : ∀ q ∈ rw_131_16, rn_TS MM RL cL_sleeping 19 ([], "sleeping", some Jvm.ClassFile.FieldType.boolean) q.1 q.2 :=
  (rn_c1 (rn_st_ok (rn_ifc (by decide +kernel : decode cL_sleeping 258 = .ok (.ifCond .eq 5, 3)) rfl)) 
  (rn_c1 (rn_st_ok (rn_iconst (by decide +kernel : decode cL_sleeping 261 = .ok (.iconst 0, 1)) rfl)) 
  (rn_c1 (rn_ret (by decide +kernel : decode cL_sleeping 262 = .ok (.ireturn, 1)) rfl (Or.inr (Or.inr (Or.inl ⟨rfl, rfl⟩))) (Or.inr (Or.inr ⟨Or.inr rfl, rfl⟩))) 
  (rn_c1 (rn_st_ok (rn_iinc (by decide +kernel : decode cL_sleeping 263 = .ok (.iinc 5 1, 3)) rfl (by decide))) 
  (rn_c1 (rn_cg_ok (by decide +kernel : decode cL_sleeping 266 = .ok (.goto (-113), 3)) rfl) 
  (rn_c1 (rn_st_ok (rn_iload_n (by decide +kernel : decode cL_sleeping 269 = .ok (.iload_n 2, 1)) rfl)) 
  (rn_c1 (rn_st_ok (rn_newZ (by decide +kernel : decode cL_sleeping 270 = .ok (.newarray .boolean, 2)) aw_1323)) rn_n1)))))))
theorem rp_131_17 : ∀ q ∈ rw_131_17, rn_TS MM RL cL_sleeping 19 ([], "sleeping", some Jvm.ClassFile.FieldType.boolean) q.1 q.2 :=
  (rn_c1 (rn_st_ok (rn_astore (by decide +kernel : decode cL_sleeping 272 = .ok (.astore 5, 2)) (by decide))) 
  (rn_c1 (rn_st_ok (rn_iload_n (by decide +kernel : decode cL_sleeping 274 = .ok (.iload_n 2, 1)) rfl)) 
  (rn_c1 (rn_st_ok (rn_newZ (by decide +kernel : decode cL_sleeping 275 = .ok (.newarray .boolean, 2)) aw_1323)) 
  (rn_c1 (rn_st_ok (rn_astore (by decide +kernel : decode cL_sleeping 277 = .ok (.astore 6, 2)) (by decide))) 
  (rn_c1 (rn_st_ok (rn_iload_n (by decide +kernel : decode cL_sleeping 279 = .ok (.iload_n 2, 1)) rfl)) 
  (rn_c1 (rn_st_ok (rn_newZ (by decide +kernel : decode cL_sleeping 280 = .ok (.newarray .boolean, 2)) aw_1323)) 
  (rn_c1 (rn_st_ok (rn_astore (by decide +kernel : decode cL_sleeping 282 = .ok (.astore 7, 2)) (by decide))) 
  (rn_c1 (rn_st_ok (rn_iload_n (by decide +kernel : decode cL_sleeping 284 = .ok (.iload_n 2, 1)) rfl)) 
  (rn_c1 (rn_st_ok (rn_newZ (by decide +kernel : decode cL_sleeping 285 = .ok (.newarray .boolean, 2)) aw_1323)) 
  (rn_c1 (rn_st_ok (rn_astore (by decide +kernel : decode cL_sleeping 287 = .ok (.astore 8, 2)) (by decide))) rn_n1))))))))))
theorem rp_131_18 : ∀ q ∈ rw_131_18, rn_TS MM RL cL_sleeping 19 ([], "sleeping", some Jvm.ClassFile.FieldType.boolean) q.1 q.2 :=
  (rn_c1 (rn_st_ok (rn_iconst (by decide +kernel : decode cL_sleeping 289 = .ok (.iconst 0, 1)) rfl)) 
  (rn_c1 (rn_st_ok (rn_istore (by decide +kernel : decode cL_sleeping 290 = .ok (.istore 9, 2)) (by decide))) 
  (rn_c1 (rn_st_ok (rn_ldc (by decide +kernel : decode cL_sleeping 292 = .ok (.ldc 87, 2)) aw_1278 rfl)) 
  (rn_c1 (rn_st_ok (rn_istore (by decide +kernel : decode cL_sleeping 294 = .ok (.istore 10, 2)) (by decide))) 
  (rn_c1 (rn_st_ok (rn_iconst (by decide +kernel : decode cL_sleeping 296 = .ok (.iconst 0, 1)) rfl)) 
  (rn_c1 (rn_st_ok (rn_istore (by decide +kernel : decode cL_sleeping 297 = .ok (.istore 11, 2)) (by decide))) 
  (rn_c1 (rn_cu_ok) rn_n1)))))))
theorem tp_131 : ∀ row ∈ tb_131, ∀ q ∈ row, rn_TS MM RL cL_sleeping 19 ([], "sleeping", some Jvm.ClassFile.FieldType.boolean) q.1 q.2 := (rn_c2 rp_131_0 (rn_c2 rp_131_1 (rn_c2 rp_131_2 (rn_c2 rp_131_3 (rn_c2 rp_131_4 (rn_c2 rp_131_5 (rn_c2 rp_131_6 (rn_c2 rp_131_7 (rn_c2 rp_131_8 (rn_c2 rp_131_9 (rn_c2 rp_131_10 (rn_c2 rp_131_11 (rn_c2 rp_131_12 (rn_c2 rp_131_13 (rn_c2 rp_131_14 (rn_c2 rp_131_15 (rn_c2 rp_131_16 (rn_c2 rp_131_17 (rn_c2 rp_131_18 rn_n2)))))))))))))))))))
end RNR5
