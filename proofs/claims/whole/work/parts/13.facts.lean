theorem d_146_33 : decode (mC 146) 33 = .ok (.aload_n 2, 1) := by decide +kernel
theorem d_146_34 : decode (mC 146) 34 = .ok (.getfield 36, 3) := by decide +kernel
theorem fk_CordLoft_Paths_36 : FK 0 "CordLoft$Paths" 36 8 0 := ⟨⟨_, rfl, by decide, List.mem_of_getElem? (i := 330) (by decide +kernel)⟩, rfl, by decide⟩
theorem d_146_37 : decode (mC 146) 37 = .ok (.iconst 0, 1) := by decide +kernel
theorem d_146_38 : decode (mC 146) 38 = .ok (.iastore, 1) := by decide +kernel
theorem d_146_39 : decode (mC 146) 39 = .ok (.aload_n 0, 1) := by decide +kernel
theorem d_146_40 : decode (mC 146) 40 = .ok (.getfield 26, 3) := by decide +kernel
theorem d_146_43 : decode (mC 146) 43 = .ok (.aload_n 2, 1) := by decide +kernel
theorem d_146_44 : decode (mC 146) 44 = .ok (.getfield 36, 3) := by decide +kernel
theorem d_146_47 : decode (mC 146) 47 = .ok (.iconst 1, 1) := by decide +kernel
theorem d_146_48 : decode (mC 146) 48 = .ok (.iastore, 1) := by decide +kernel
theorem d_146_49 : decode (mC 146) 49 = .ok (.aload_n 0, 1) := by decide +kernel
theorem d_146_50 : decode (mC 146) 50 = .ok (.getfield 23, 3) := by decide +kernel
theorem d_146_53 : decode (mC 146) 53 = .ok (.iconst 0, 1) := by decide +kernel
theorem d_146_54 : decode (mC 146) 54 = .ok (.aload_n 2, 1) := by decide +kernel
theorem d_146_55 : decode (mC 146) 55 = .ok (.getfield 36, 3) := by decide +kernel
theorem d_146_58 : decode (mC 146) 58 = .ok (.iastore, 1) := by decide +kernel
theorem d_146_59 : decode (mC 146) 59 = .ok (.aload_n 0, 1) := by decide +kernel
theorem d_146_60 : decode (mC 146) 60 = .ok (.iconst 1, 1) := by decide +kernel
theorem d_146_61 : decode (mC 146) 61 = .ok (.putfield 41, 3) := by decide +kernel
theorem d_146_64 : decode (mC 146) 64 = .ok (.iconst 0, 1) := by decide +kernel
theorem d_146_65 : decode (mC 146) 65 = .ok (.istore_n 3, 1) := by decide +kernel
theorem d_146_159 : decode (mC 146) 159 = .ok (.return_, 1) := by decide +kernel
theorem mr_146 : mR 146 = none := by decide +kernel
theorem d_148_26 : decode (mC 148) 26 = .ok (.iload 4, 2) := by decide +kernel
theorem d_148_28 : decode (mC 148) 28 = .ok (.ifCond .lt 29, 3) := by decide +kernel
theorem d_148_31 : decode (mC 148) 31 = .ok (.aload_n 0, 1) := by decide +kernel
theorem d_148_32 : decode (mC 148) 32 = .ok (.getfield 29, 3) := by decide +kernel
theorem fk_CordLoft_Paths_29 : FK 2 "CordLoft$Paths" 29 3 6 := ⟨⟨_, rfl, by decide, List.mem_of_getElem? (i := 425) (by decide +kernel)⟩, rfl, by decide⟩
theorem cn_148 : (mN 148).cls = "CordLoft$Paths" := by decide +kernel
theorem ft_4_6 : finT 4 6 = some (98, 0) := by decide +kernel
theorem k_98 : kd0 98 = 20 := by decide +kernel
theorem l_98 : ln0 98 = 256 := by decide +kernel
theorem d_148_35 : decode (mC 148) 35 = .ok (.iload 4, 2) := by decide +kernel
theorem d_148_37 : decode (mC 148) 37 = .ok (.aload_n 0, 1) := by decide +kernel
theorem d_148_38 : decode (mC 148) 38 = .ok (.getfield 20, 3) := by decide +kernel
theorem d_148_41 : decode (mC 148) 41 = .ok (.iload_n 3, 1) := by decide +kernel
theorem d_148_42 : decode (mC 148) 42 = .ok (.iaload, 1) := by decide +kernel
theorem d_148_43 : decode (mC 148) 43 = .ok (.iastore, 1) := by decide +kernel
theorem d_148_44 : decode (mC 148) 44 = .ok (.aload_n 0, 1) := by decide +kernel
theorem d_148_45 : decode (mC 148) 45 = .ok (.getfield 17, 3) := by decide +kernel
theorem d_148_48 : decode (mC 148) 48 = .ok (.iload_n 3, 1) := by decide +kernel
theorem d_148_49 : decode (mC 148) 49 = .ok (.iaload, 1) := by decide +kernel
theorem d_148_50 : decode (mC 148) 50 = .ok (.istore_n 3, 1) := by decide +kernel
theorem ml_148 : mL 148 = 5 := by decide +kernel
theorem d_148_51 : decode (mC 148) 51 = .ok (.iinc 4 (-1), 3) := by decide +kernel
theorem d_148_54 : decode (mC 148) 54 = .ok (.goto (-28), 3) := by decide +kernel
theorem d_148_0 : decode (mC 148) 0 = .ok (.aload_n 0, 1) := by decide +kernel
theorem d_148_1 : decode (mC 148) 1 = .ok (.getfield 11, 3) := by decide +kernel
theorem d_148_4 : decode (mC 148) 4 = .ok (.iload_n 1, 1) := by decide +kernel
theorem d_148_5 : decode (mC 148) 5 = .ok (.iaload, 1) := by decide +kernel
theorem d_148_6 : decode (mC 148) 6 = .ok (.istore_n 2, 1) := by decide +kernel
theorem d_148_7 : decode (mC 148) 7 = .ok (.aload_n 0, 1) := by decide +kernel
theorem d_148_8 : decode (mC 148) 8 = .ok (.iload_n 2, 1) := by decide +kernel
theorem d_148_9 : decode (mC 148) 9 = .ok (.iconst 0, 1) := by decide +kernel
theorem d_148_10 : decode (mC 148) 10 = .ok (.invokestatic 66, 3) := by decide +kernel
theorem mk_CordLoft_Paths_66 : Cond.methodLink "CordLoft$Paths" 66 Lib.Math.max.name ∈ lw_tbl := List.mem_of_getElem? (i := 1076) (by decide +kernel)
theorem d_148_13 : decode (mC 148) 13 = .ok (.putfield 32, 3) := by decide +kernel
theorem d_148_16 : decode (mC 148) 16 = .ok (.iload_n 1, 1) := by decide +kernel
theorem d_148_17 : decode (mC 148) 17 = .ok (.istore_n 3, 1) := by decide +kernel
theorem d_148_18 : decode (mC 148) 18 = .ok (.aload_n 0, 1) := by decide +kernel
theorem d_148_19 : decode (mC 148) 19 = .ok (.getfield 32, 3) := by decide +kernel
theorem fk_CordLoft_Paths_32 : FK 0 "CordLoft$Paths" 32 3 7 := ⟨⟨_, rfl, by decide, List.mem_of_getElem? (i := 427) (by decide +kernel)⟩, rfl, by decide⟩
theorem d_148_22 : decode (mC 148) 22 = .ok (.iconst 1, 1) := by decide +kernel
theorem d_148_23 : decode (mC 148) 23 = .ok (.isub, 1) := by decide +kernel
theorem d_148_24 : decode (mC 148) 24 = .ok (.istore 4, 2) := by decide +kernel
theorem d_148_57 : decode (mC 148) 57 = .ok (.iload_n 2, 1) := by decide +kernel
theorem d_148_58 : decode (mC 148) 58 = .ok (.ireturn, 1) := by decide +kernel
theorem mr_148 : mR 148 = some .int := by decide +kernel
theorem d_145_0 : decode (mC 145) 0 = .ok (.aload_n 0, 1) := by decide +kernel
theorem d_145_1 : decode (mC 145) 1 = .ok (.getfield 74, 3) := by decide +kernel
theorem cn_145 : (mN 145).cls = "CordLoft" := by decide +kernel
theorem d_145_4 : decode (mC 145) 4 = .ok (.invokevirtual 126, 3) := by decide +kernel
theorem vk_145_126 : VK 145 126 82 0 3 := ⟨⟨List.mem_of_getElem? (i := 800) (by decide +kernel), by decide +kernel⟩, List.mem_of_getElem? (i := 801) (by decide +kernel), mo_82, m0_82, _, rfl, List.mem_of_getElem? (i := 802) (by decide +kernel), by decide⟩
theorem d_145_7 : decode (mC 145) 7 = .ok (.aload_n 0, 1) := by decide +kernel
theorem d_145_8 : decode (mC 145) 8 = .ok (.getfield 35, 3) := by decide +kernel
theorem d_145_11 : decode (mC 145) 11 = .ok (.iload_n 1, 1) := by decide +kernel
theorem d_145_12 : decode (mC 145) 12 = .ok (.invokevirtual 203, 3) := by decide +kernel
theorem vk_145_203 : VK 145 203 114 1 4 := ⟨⟨List.mem_of_getElem? (i := 930) (by decide +kernel), by decide +kernel⟩, List.mem_of_getElem? (i := 931) (by decide +kernel), mo_114, m0_114, _, rfl, List.mem_of_getElem? (i := 932) (by decide +kernel), by decide⟩
theorem d_145_15 : decode (mC 145) 15 = .ok (.ifCond .ne 5, 3) := by decide +kernel
theorem d_145_20 : decode (mC 145) 20 = .ok (.aload_n 0, 1) := by decide +kernel
theorem d_145_21 : decode (mC 145) 21 = .ok (.getfield 74, 3) := by decide +kernel
theorem d_145_24 : decode (mC 145) 24 = .ok (.aload_n 0, 1) := by decide +kernel
theorem d_145_25 : decode (mC 145) 25 = .ok (.getfield 35, 3) := by decide +kernel
theorem d_145_28 : decode (mC 145) 28 = .ok (.aload_n 0, 1) := by decide +kernel
theorem d_145_29 : decode (mC 145) 29 = .ok (.getfield 45, 3) := by decide +kernel
theorem d_145_32 : decode (mC 145) 32 = .ok (.invokevirtual 114, 3) := by decide +kernel
theorem vk_145_114 : VK 145 114 78 0 0 := ⟨⟨List.mem_of_getElem? (i := 784) (by decide +kernel), by decide +kernel⟩, List.mem_of_getElem? (i := 785) (by decide +kernel), mo_78, m0_78, _, rfl, List.mem_of_getElem? (i := 786) (by decide +kernel), by decide⟩
theorem d_145_35 : decode (mC 145) 35 = .ok (.invokevirtual 252, 3) := by decide +kernel
theorem mo_146 : MOK 146 := ⟨List.mem_of_getElem? (i := 1066) (by decide +kernel), by decide +kernel, ⟨by decide +kernel, by decide +kernel⟩, List.mem_of_getElem? (i := 98) (by decide +kernel), by decide +kernel⟩
theorem m0_146 : M0K 146 := ⟨by decide +kernel, by decide +kernel⟩
theorem vk_145_252 : VK 145 252 146 2 3 := ⟨⟨List.mem_of_getElem? (i := 1063) (by decide +kernel), by decide +kernel⟩, List.mem_of_getElem? (i := 1064) (by decide +kernel), mo_146, m0_146, _, rfl, List.mem_of_getElem? (i := 1065) (by decide +kernel), by decide⟩
theorem d_145_38 : decode (mC 145) 38 = .ok (.aload_n 0, 1) := by decide +kernel
theorem d_145_39 : decode (mC 145) 39 = .ok (.getfield 74, 3) := by decide +kernel
theorem d_145_42 : decode (mC 145) 42 = .ok (.iload_n 1, 1) := by decide +kernel
theorem d_145_43 : decode (mC 145) 43 = .ok (.invokevirtual 256, 3) := by decide +kernel
theorem mo_148 : MOK 148 := ⟨List.mem_of_getElem? (i := 1075) (by decide +kernel), by decide +kernel, ⟨by decide +kernel, by decide +kernel⟩, List.mem_of_getElem? (i := 98) (by decide +kernel), by decide +kernel⟩
theorem m0_148 : M0K 148 := ⟨by decide +kernel, by decide +kernel⟩
theorem vk_145_256 : VK 145 256 148 1 3 := ⟨⟨List.mem_of_getElem? (i := 1072) (by decide +kernel), by decide +kernel⟩, List.mem_of_getElem? (i := 1073) (by decide +kernel), mo_148, m0_148, _, rfl, List.mem_of_getElem? (i := 1074) (by decide +kernel), by decide⟩
theorem d_145_46 : decode (mC 145) 46 = .ok (.ireturn, 1) := by decide +kernel
theorem mr_145 : mR 145 = some .int := by decide +kernel
theorem d_145_18 : decode (mC 145) 18 = .ok (.iconst (-1), 1) := by decide +kernel
theorem d_145_19 : decode (mC 145) 19 = .ok (.ireturn, 1) := by decide +kernel
theorem ml_145 : mL 145 = 2 := by decide +kernel
theorem d_149_0 : decode (mC 149) 0 = .ok (.aload_n 0, 1) := by decide +kernel
theorem d_149_1 : decode (mC 149) 1 = .ok (.getfield 35, 3) := by decide +kernel
theorem cn_149 : (mN 149).cls = "CordLoft" := by decide +kernel
theorem d_149_4 : decode (mC 149) 4 = .ok (.iload_n 1, 1) := by decide +kernel
theorem d_149_5 : decode (mC 149) 5 = .ok (.invokevirtual 203, 3) := by decide +kernel
theorem vk_149_203 : VK 149 203 114 1 4 := ⟨⟨List.mem_of_getElem? (i := 930) (by decide +kernel), by decide +kernel⟩, List.mem_of_getElem? (i := 931) (by decide +kernel), mo_114, m0_114, _, rfl, List.mem_of_getElem? (i := 932) (by decide +kernel), by decide⟩
theorem d_149_8 : decode (mC 149) 8 = .ok (.ifCond .ne 5, 3) := by decide +kernel
theorem d_149_13 : decode (mC 149) 13 = .ok (.aload_n 0, 1) := by decide +kernel
theorem d_149_14 : decode (mC 149) 14 = .ok (.getfield 74, 3) := by decide +kernel
theorem d_149_17 : decode (mC 149) 17 = .ok (.aload_n 0, 1) := by decide +kernel
theorem d_149_18 : decode (mC 149) 18 = .ok (.getfield 35, 3) := by decide +kernel
theorem d_149_21 : decode (mC 149) 21 = .ok (.aload_n 0, 1) := by decide +kernel
theorem d_149_22 : decode (mC 149) 22 = .ok (.getfield 45, 3) := by decide +kernel
theorem d_149_25 : decode (mC 149) 25 = .ok (.invokevirtual 114, 3) := by decide +kernel
theorem vk_149_114 : VK 149 114 78 0 0 := ⟨⟨List.mem_of_getElem? (i := 784) (by decide +kernel), by decide +kernel⟩, List.mem_of_getElem? (i := 785) (by decide +kernel), mo_78, m0_78, _, rfl, List.mem_of_getElem? (i := 786) (by decide +kernel), by decide⟩
theorem d_149_28 : decode (mC 149) 28 = .ok (.invokevirtual 252, 3) := by decide +kernel
theorem vk_149_252 : VK 149 252 146 2 3 := ⟨⟨List.mem_of_getElem? (i := 1063) (by decide +kernel), by decide +kernel⟩, List.mem_of_getElem? (i := 1064) (by decide +kernel), mo_146, m0_146, _, rfl, List.mem_of_getElem? (i := 1065) (by decide +kernel), by decide⟩
theorem d_149_31 : decode (mC 149) 31 = .ok (.aload_n 0, 1) := by decide +kernel
theorem d_149_32 : decode (mC 149) 32 = .ok (.getfield 74, 3) := by decide +kernel
theorem d_149_35 : decode (mC 149) 35 = .ok (.getfield 259, 3) := by decide +kernel
theorem fk_CordLoft_259 : FK 2 "CordLoft" 259 3 5 := ⟨⟨_, rfl, by decide, List.mem_of_getElem? (i := 424) (by decide +kernel)⟩, rfl, by decide⟩
theorem d_149_38 : decode (mC 149) 38 = .ok (.iload_n 1, 1) := by decide +kernel
theorem d_149_39 : decode (mC 149) 39 = .ok (.iaload, 1) := by decide +kernel
theorem d_149_40 : decode (mC 149) 40 = .ok (.ireturn, 1) := by decide +kernel
theorem mr_149 : mR 149 = some .int := by decide +kernel
theorem d_149_11 : decode (mC 149) 11 = .ok (.iconst 0, 1) := by decide +kernel
theorem d_149_12 : decode (mC 149) 12 = .ok (.ireturn, 1) := by decide +kernel
theorem ml_149 : mL 149 = 2 := by decide +kernel
theorem d_152_83 : decode (mC 152) 83 = .ok (.iload 4, 2) := by decide +kernel
theorem d_152_85 : decode (mC 152) 85 = .ok (.invokevirtual 58, 3) := by decide +kernel
theorem vk_152_58 : VK 152 58 121 2 1 := ⟨⟨List.mem_of_getElem? (i := 959) (by decide +kernel), by decide +kernel⟩, List.mem_of_getElem? (i := 960) (by decide +kernel), mo_121, m0_121, _, rfl, List.mem_of_getElem? (i := 961) (by decide +kernel), by decide⟩
theorem d_152_88 : decode (mC 152) 88 = .ok (.iinc 4 1, 3) := by decide +kernel
theorem ml_152 : mL 152 = 7 := by decide +kernel
theorem d_152_91 : decode (mC 152) 91 = .ok (.goto (-81), 3) := by decide +kernel
theorem d_152_59 : decode (mC 152) 59 = .ok (.istore 6, 2) := by decide +kernel
theorem d_152_61 : decode (mC 152) 61 = .ok (.aload_n 0, 1) := by decide +kernel
theorem d_152_62 : decode (mC 152) 62 = .ok (.getfield 12, 3) := by decide +kernel
theorem cn_152 : (mN 152).cls = "CordLoft$Sets" := by decide +kernel
theorem d_152_65 : decode (mC 152) 65 = .ok (.iload 6, 2) := by decide +kernel
theorem d_152_67 : decode (mC 152) 67 = .ok (.ifCond .eq 7, 3) := by decide +kernel
theorem d_152_74 : decode (mC 152) 74 = .ok (.aload_n 0, 1) := by decide +kernel
theorem d_152_75 : decode (mC 152) 75 = .ok (.getfield 20, 3) := by decide +kernel
theorem fk_CordLoft_Sets_20 : FK 2 "CordLoft$Sets" 20 6 1 := ⟨⟨_, rfl, by decide, List.mem_of_getElem? (i := 389) (by decide +kernel)⟩, rfl, by decide⟩
theorem ft_7_1 : finT 7 1 = some (88, 0) := by decide +kernel
theorem k_88 : kd0 88 = 20 := by decide +kernel
theorem l_88 : ln0 88 = 256 := by decide +kernel
theorem d_152_78 : decode (mC 152) 78 = .ok (.iload_n 3, 1) := by decide +kernel
theorem d_152_79 : decode (mC 152) 79 = .ok (.iload 5, 2) := by decide +kernel
theorem d_152_81 : decode (mC 152) 81 = .ok (.ior, 1) := by decide +kernel
theorem d_152_82 : decode (mC 152) 82 = .ok (.iaload, 1) := by decide +kernel
theorem d_152_70 : decode (mC 152) 70 = .ok (.iconst (-1), 1) := by decide +kernel
theorem d_152_71 : decode (mC 152) 71 = .ok (.goto 12, 3) := by decide +kernel
theorem d_152_10 : decode (mC 152) 10 = .ok (.iload 4, 2) := by decide +kernel
theorem d_152_12 : decode (mC 152) 12 = .ok (.aload_n 1, 1) := by decide +kernel
theorem d_152_13 : decode (mC 152) 13 = .ok (.getfield 74, 3) := by decide +kernel
theorem d_152_16 : decode (mC 152) 16 = .ok (.if_icmp .ge 78, 3) := by decide +kernel
theorem d_152_19 : decode (mC 152) 19 = .ok (.iconst 1, 1) := by decide +kernel
theorem d_152_20 : decode (mC 152) 20 = .ok (.iload 4, 2) := by decide +kernel
theorem d_152_22 : decode (mC 152) 22 = .ok (.ishl, 1) := by decide +kernel
theorem d_152_23 : decode (mC 152) 23 = .ok (.istore 5, 2) := by decide +kernel
theorem d_152_25 : decode (mC 152) 25 = .ok (.iload_n 3, 1) := by decide +kernel
theorem d_152_26 : decode (mC 152) 26 = .ok (.aload_n 2, 1) := by decide +kernel
theorem d_152_27 : decode (mC 152) 27 = .ok (.getfield 37, 3) := by decide +kernel
theorem d_152_30 : decode (mC 152) 30 = .ok (.ior, 1) := by decide +kernel
theorem d_152_31 : decode (mC 152) 31 = .ok (.iload 5, 2) := by decide +kernel
theorem d_152_33 : decode (mC 152) 33 = .ok (.iand, 1) := by decide +kernel
theorem d_152_34 : decode (mC 152) 34 = .ok (.ifCond .ne 54, 3) := by decide +kernel
theorem d_152_37 : decode (mC 152) 37 = .ok (.aload_n 2, 1) := by decide +kernel
theorem d_152_38 : decode (mC 152) 38 = .ok (.getfield 43, 3) := by decide +kernel
theorem d_152_41 : decode (mC 152) 41 = .ok (.aload_n 1, 1) := by decide +kernel
theorem d_152_42 : decode (mC 152) 42 = .ok (.getfield 46, 3) := by decide +kernel
theorem d_152_45 : decode (mC 152) 45 = .ok (.iload_n 3, 1) := by decide +kernel
theorem d_152_46 : decode (mC 152) 46 = .ok (.iload 5, 2) := by decide +kernel
theorem d_152_48 : decode (mC 152) 48 = .ok (.ior, 1) := by decide +kernel
theorem d_152_49 : decode (mC 152) 49 = .ok (.iaload, 1) := by decide +kernel
theorem d_152_50 : decode (mC 152) 50 = .ok (.ixor, 1) := by decide +kernel
theorem d_152_51 : decode (mC 152) 51 = .ok (.ifCond .ne 7, 3) := by decide +kernel
theorem d_152_58 : decode (mC 152) 58 = .ok (.iconst 0, 1) := by decide +kernel
theorem d_152_54 : decode (mC 152) 54 = .ok (.iconst 1, 1) := by decide +kernel
theorem d_152_55 : decode (mC 152) 55 = .ok (.goto 4, 3) := by decide +kernel
theorem d_152_0 : decode (mC 152) 0 = .ok (.aload_n 0, 1) := by decide +kernel
theorem d_152_1 : decode (mC 152) 1 = .ok (.getfield 12, 3) := by decide +kernel
theorem d_152_4 : decode (mC 152) 4 = .ok (.invokevirtual 49, 3) := by decide +kernel
theorem vk_152_49 : VK 152 49 120 0 1 := ⟨⟨List.mem_of_getElem? (i := 954) (by decide +kernel), by decide +kernel⟩, List.mem_of_getElem? (i := 955) (by decide +kernel), mo_120, m0_120, _, rfl, List.mem_of_getElem? (i := 956) (by decide +kernel), by decide⟩
theorem d_152_7 : decode (mC 152) 7 = .ok (.iconst 0, 1) := by decide +kernel
theorem d_152_8 : decode (mC 152) 8 = .ok (.istore 4, 2) := by decide +kernel
theorem d_152_94 : decode (mC 152) 94 = .ok (.aload_n 0, 1) := by decide +kernel
theorem d_152_95 : decode (mC 152) 95 = .ok (.aload_n 0, 1) := by decide +kernel
theorem d_152_96 : decode (mC 152) 96 = .ok (.getfield 12, 3) := by decide +kernel
theorem d_152_99 : decode (mC 152) 99 = .ok (.getfield 62, 3) := by decide +kernel
theorem d_152_102 : decode (mC 152) 102 = .ok (.putfield 90, 3) := by decide +kernel
theorem fp_CordLoft_Sets_90 : FP 0 "CordLoft$Sets" 90 6 5 := ⟨⟨_, rfl, by decide, List.mem_of_getElem? (i := 393) (by decide +kernel), rfl⟩, rfl, by decide, by decide +kernel⟩
theorem d_152_105 : decode (mC 152) 105 = .ok (.aload_n 0, 1) := by decide +kernel
theorem d_152_106 : decode (mC 152) 106 = .ok (.getfield 12, 3) := by decide +kernel
theorem d_152_109 : decode (mC 152) 109 = .ok (.getfield 62, 3) := by decide +kernel
theorem d_152_112 : decode (mC 152) 112 = .ok (.ifCond .ge 7, 3) := by decide +kernel
theorem d_152_119 : decode (mC 152) 119 = .ok (.aload_n 0, 1) := by decide +kernel
theorem d_152_120 : decode (mC 152) 120 = .ok (.getfield 12, 3) := by decide +kernel
theorem d_152_123 : decode (mC 152) 123 = .ok (.getfield 97, 3) := by decide +kernel
theorem fk_CordLoft_Sets_97 : FK 0 "CordLoft$Sets" 97 1 0 := ⟨⟨_, rfl, by decide, List.mem_of_getElem? (i := 380) (by decide +kernel)⟩, rfl, by decide⟩
theorem d_152_126 : decode (mC 152) 126 = .ok (.ineg, 1) := by decide +kernel
theorem d_152_127 : decode (mC 152) 127 = .ok (.ireturn, 1) := by decide +kernel
theorem mr_152 : mR 152 = some .int := by decide +kernel
theorem d_152_115 : decode (mC 152) 115 = .ok (.iconst 0, 1) := by decide +kernel
theorem d_152_116 : decode (mC 152) 116 = .ok (.goto 11, 3) := by decide +kernel
theorem d_151_20 : decode (mC 151) 20 = .ok (.iload 4, 2) := by decide +kernel
theorem d_151_22 : decode (mC 151) 22 = .ok (.ifCond .lt 33, 3) := by decide +kernel
theorem d_151_25 : decode (mC 151) 25 = .ok (.iload 4, 2) := by decide +kernel
theorem d_151_27 : decode (mC 151) 27 = .ok (.iload_n 3, 1) := by decide +kernel
theorem d_151_28 : decode (mC 151) 28 = .ok (.iconst (-1), 1) := by decide +kernel
theorem d_151_29 : decode (mC 151) 29 = .ok (.ixor, 1) := by decide +kernel
theorem d_151_30 : decode (mC 151) 30 = .ok (.iand, 1) := by decide +kernel
theorem d_151_31 : decode (mC 151) 31 = .ok (.ifCond .ne 18, 3) := by decide +kernel
theorem d_151_49 : decode (mC 151) 49 = .ok (.iinc 4 (-1), 3) := by decide +kernel
theorem ml_151 : mL 151 = 5 := by decide +kernel
theorem d_151_52 : decode (mC 151) 52 = .ok (.goto (-32), 3) := by decide +kernel
theorem d_151_34 : decode (mC 151) 34 = .ok (.aload_n 0, 1) := by decide +kernel
theorem d_151_35 : decode (mC 151) 35 = .ok (.getfield 20, 3) := by decide +kernel
theorem cn_151 : (mN 151).cls = "CordLoft$Sets" := by decide +kernel
theorem d_151_38 : decode (mC 151) 38 = .ok (.iload 4, 2) := by decide +kernel
theorem d_151_40 : decode (mC 151) 40 = .ok (.aload_n 0, 1) := by decide +kernel
theorem d_151_41 : decode (mC 151) 41 = .ok (.aload_n 1, 1) := by decide +kernel
theorem d_151_42 : decode (mC 151) 42 = .ok (.aload_n 2, 1) := by decide +kernel
theorem d_151_43 : decode (mC 151) 43 = .ok (.iload 4, 2) := by decide +kernel
theorem d_151_45 : decode (mC 151) 45 = .ok (.invokevirtual 93, 3) := by decide +kernel
theorem mo_152 : MOK 152 := ⟨List.mem_of_getElem? (i := 1092) (by decide +kernel), by decide +kernel, ⟨by decide +kernel, by decide +kernel⟩, List.mem_of_getElem? (i := 96) (by decide +kernel), by decide +kernel⟩
theorem m0_152 : M0K 152 := ⟨by decide +kernel, by decide +kernel⟩
theorem vk_151_93 : VK 151 93 152 3 6 := ⟨⟨List.mem_of_getElem? (i := 1089) (by decide +kernel), by decide +kernel⟩, List.mem_of_getElem? (i := 1091) (by decide +kernel), mo_152, m0_152, _, rfl, List.mem_of_getElem? (i := 25) (by decide +kernel), by decide⟩
theorem d_151_48 : decode (mC 151) 48 = .ok (.iastore, 1) := by decide +kernel
theorem d_151_0 : decode (mC 151) 0 = .ok (.aload_n 1, 1) := by decide +kernel
theorem d_151_1 : decode (mC 151) 1 = .ok (.invokevirtual 33, 3) := by decide +kernel
theorem vk_151_33 : VK 151 33 117 0 4 := ⟨⟨List.mem_of_getElem? (i := 942) (by decide +kernel), by decide +kernel⟩, List.mem_of_getElem? (i := 943) (by decide +kernel), mo_117, m0_117, _, rfl, List.mem_of_getElem? (i := 944) (by decide +kernel), by decide⟩
theorem d_151_4 : decode (mC 151) 4 = .ok (.aload_n 2, 1) := by decide +kernel
theorem d_151_5 : decode (mC 151) 5 = .ok (.getfield 37, 3) := by decide +kernel
theorem d_151_8 : decode (mC 151) 8 = .ok (.iconst (-1), 1) := by decide +kernel
theorem d_151_9 : decode (mC 151) 9 = .ok (.ixor, 1) := by decide +kernel
theorem d_151_10 : decode (mC 151) 10 = .ok (.iand, 1) := by decide +kernel
theorem d_151_11 : decode (mC 151) 11 = .ok (.istore_n 3, 1) := by decide +kernel
theorem d_151_12 : decode (mC 151) 12 = .ok (.aload_n 0, 1) := by decide +kernel
theorem d_151_13 : decode (mC 151) 13 = .ok (.iconst (-1), 1) := by decide +kernel
theorem d_151_14 : decode (mC 151) 14 = .ok (.putfield 90, 3) := by decide +kernel
theorem d_151_17 : decode (mC 151) 17 = .ok (.iload_n 3, 1) := by decide +kernel
theorem d_151_18 : decode (mC 151) 18 = .ok (.istore 4, 2) := by decide +kernel
theorem d_151_55 : decode (mC 151) 55 = .ok (.aload_n 0, 1) := by decide +kernel
theorem d_151_56 : decode (mC 151) 56 = .ok (.getfield 20, 3) := by decide +kernel
theorem d_151_59 : decode (mC 151) 59 = .ok (.iconst 0, 1) := by decide +kernel
theorem d_151_60 : decode (mC 151) 60 = .ok (.iaload, 1) := by decide +kernel
theorem d_151_61 : decode (mC 151) 61 = .ok (.ireturn, 1) := by decide +kernel
theorem mr_151 : mR 151 = some .int := by decide +kernel
theorem d_150_0 : decode (mC 150) 0 = .ok (.iload_n 1, 1) := by decide +kernel
theorem d_150_1 : decode (mC 150) 1 = .ok (.ifCond .lt 8, 3) := by decide +kernel
theorem d_150_9 : decode (mC 150) 9 = .ok (.iconst (-1), 1) := by decide +kernel
theorem d_150_10 : decode (mC 150) 10 = .ok (.ireturn, 1) := by decide +kernel
theorem mr_150 : mR 150 = some .int := by decide +kernel
theorem d_150_4 : decode (mC 150) 4 = .ok (.iload_n 1, 1) := by decide +kernel
theorem d_150_5 : decode (mC 150) 5 = .ok (.iconst 1, 1) := by decide +kernel
theorem d_150_6 : decode (mC 150) 6 = .ok (.if_icmp .le 5, 3) := by decide +kernel
theorem d_150_11 : decode (mC 150) 11 = .ok (.aload_n 0, 1) := by decide +kernel
theorem d_150_12 : decode (mC 150) 12 = .ok (.getfield 67, 3) := by decide +kernel
theorem cn_150 : (mN 150).cls = "CordLoft" := by decide +kernel
theorem d_150_15 : decode (mC 150) 15 = .ok (.aload_n 0, 1) := by decide +kernel
theorem d_150_16 : decode (mC 150) 16 = .ok (.getfield 35, 3) := by decide +kernel
theorem d_150_19 : decode (mC 150) 19 = .ok (.aload_n 0, 1) := by decide +kernel
theorem d_150_20 : decode (mC 150) 20 = .ok (.getfield 45, 3) := by decide +kernel
theorem d_150_23 : decode (mC 150) 23 = .ok (.invokevirtual 114, 3) := by decide +kernel
theorem vk_150_114 : VK 150 114 78 0 0 := ⟨⟨List.mem_of_getElem? (i := 784) (by decide +kernel), by decide +kernel⟩, List.mem_of_getElem? (i := 785) (by decide +kernel), mo_78, m0_78, _, rfl, List.mem_of_getElem? (i := 786) (by decide +kernel), by decide⟩
theorem d_150_26 : decode (mC 150) 26 = .ok (.invokevirtual 262, 3) := by decide +kernel
theorem mo_151 : MOK 151 := ⟨List.mem_of_getElem? (i := 1088) (by decide +kernel), by decide +kernel, ⟨by decide +kernel, by decide +kernel⟩, List.mem_of_getElem? (i := 96) (by decide +kernel), by decide +kernel⟩
theorem m0_151 : M0K 151 := ⟨by decide +kernel, by decide +kernel⟩
theorem vk_150_262 : VK 150 262 151 2 6 := ⟨⟨List.mem_of_getElem? (i := 1085) (by decide +kernel), by decide +kernel⟩, List.mem_of_getElem? (i := 1086) (by decide +kernel), mo_151, m0_151, _, rfl, List.mem_of_getElem? (i := 1087) (by decide +kernel), by decide⟩
theorem d_150_29 : decode (mC 150) 29 = .ok (.istore_n 2, 1) := by decide +kernel
theorem ml_150 : mL 150 = 3 := by decide +kernel
theorem d_150_30 : decode (mC 150) 30 = .ok (.iload_n 1, 1) := by decide +kernel
theorem d_150_31 : decode (mC 150) 31 = .ok (.ifCond .ne 7, 3) := by decide +kernel
theorem d_150_38 : decode (mC 150) 38 = .ok (.aload_n 0, 1) := by decide +kernel
theorem d_150_39 : decode (mC 150) 39 = .ok (.getfield 67, 3) := by decide +kernel
theorem d_150_42 : decode (mC 150) 42 = .ok (.getfield 265, 3) := by decide +kernel
theorem fk_CordLoft_265 : FK 0 "CordLoft" 265 6 5 := ⟨⟨_, rfl, by decide, List.mem_of_getElem? (i := 394) (by decide +kernel)⟩, rfl, by decide⟩
theorem d_150_45 : decode (mC 150) 45 = .ok (.ireturn, 1) := by decide +kernel
theorem d_150_34 : decode (mC 150) 34 = .ok (.iload_n 2, 1) := by decide +kernel
theorem d_150_35 : decode (mC 150) 35 = .ok (.goto 10, 3) := by decide +kernel
theorem d_153_40 : decode (mC 153) 40 = .ok (.iload_n 2, 1) := by decide +kernel
theorem d_153_41 : decode (mC 153) 41 = .ok (.sipush 300, 3) := by decide +kernel
theorem si_300 : (Int16.ofInt 300).toInt32 = 300 := by decide +kernel
theorem d_153_44 : decode (mC 153) 44 = .ok (.if_icmp .gt 57, 3) := by decide +kernel
theorem d_153_47 : decode (mC 153) 47 = .ok (.aload_n 0, 1) := by decide +kernel
theorem d_153_48 : decode (mC 153) 48 = .ok (.getfield 52, 3) := by decide +kernel
theorem cn_153 : (mN 153).cls = "CordLoft" := by decide +kernel
theorem d_153_51 : decode (mC 153) 51 = .ok (.getfield 140, 3) := by decide +kernel
theorem d_153_54 : decode (mC 153) 54 = .ok (.istore_n 3, 1) := by decide +kernel
theorem ml_153 : mL 153 = 4 := by decide +kernel
theorem d_153_55 : decode (mC 153) 55 = .ok (.aload_n 0, 1) := by decide +kernel
theorem d_153_56 : decode (mC 153) 56 = .ok (.getfield 85, 3) := by decide +kernel
theorem fk_CordLoft_85 : FK 2 "CordLoft" 85 11 12 := ⟨⟨_, rfl, by decide, List.mem_of_getElem? (i := 495) (by decide +kernel)⟩, rfl, by decide⟩
theorem ft_12_12 : finT 12 12 = some (104, 0) := by decide +kernel
theorem k_104 : kd0 104 = 20 := by decide +kernel
theorem l_104 : ln0 104 = 256 := by decide +kernel
theorem d_153_59 : decode (mC 153) 59 = .ok (.iload_n 3, 1) := by decide +kernel
theorem d_153_60 : decode (mC 153) 60 = .ok (.iaload, 1) := by decide +kernel
theorem d_153_61 : decode (mC 153) 61 = .ok (.ifCond .lt 15, 3) := by decide +kernel
theorem d_153_76 : decode (mC 153) 76 = .ok (.aload_n 0, 1) := by decide +kernel
theorem d_153_77 : decode (mC 153) 77 = .ok (.getfield 85, 3) := by decide +kernel
theorem d_153_80 : decode (mC 153) 80 = .ok (.iload_n 3, 1) := by decide +kernel
theorem d_153_81 : decode (mC 153) 81 = .ok (.iload_n 2, 1) := by decide +kernel
theorem d_153_82 : decode (mC 153) 82 = .ok (.iastore, 1) := by decide +kernel
theorem d_153_83 : decode (mC 153) 83 = .ok (.aload_n 0, 1) := by decide +kernel
theorem d_153_84 : decode (mC 153) 84 = .ok (.getfield 52, 3) := by decide +kernel
theorem d_153_87 : decode (mC 153) 87 = .ok (.aload_n 0, 1) := by decide +kernel
theorem d_153_88 : decode (mC 153) 88 = .ok (.getfield 35, 3) := by decide +kernel
theorem d_153_91 : decode (mC 153) 91 = .ok (.iconst 0, 1) := by decide +kernel
theorem d_153_92 : decode (mC 153) 92 = .ok (.invokevirtual 188, 3) := by decide +kernel
theorem vk_153_188 : VK 153 188 100 2 8 := ⟨⟨List.mem_of_getElem? (i := 873) (by decide +kernel), by decide +kernel⟩, List.mem_of_getElem? (i := 874) (by decide +kernel), mo_100, m0_100, _, rfl, List.mem_of_getElem? (i := 875) (by decide +kernel), by decide⟩
theorem d_153_95 : decode (mC 153) 95 = .ok (.iinc 2 1, 3) := by decide +kernel
theorem d_153_98 : decode (mC 153) 98 = .ok (.goto (-58), 3) := by decide +kernel
theorem d_153_64 : decode (mC 153) 64 = .ok (.iload_n 1, 1) := by decide +kernel
theorem d_153_65 : decode (mC 153) 65 = .ok (.iload_n 2, 1) := by decide +kernel
theorem d_153_66 : decode (mC 153) 66 = .ok (.aload_n 0, 1) := by decide +kernel
theorem d_153_67 : decode (mC 153) 67 = .ok (.getfield 85, 3) := by decide +kernel
theorem d_153_70 : decode (mC 153) 70 = .ok (.iload_n 3, 1) := by decide +kernel
theorem d_153_71 : decode (mC 153) 71 = .ok (.iaload, 1) := by decide +kernel
theorem d_153_72 : decode (mC 153) 72 = .ok (.invokestatic 132, 3) := by decide +kernel
theorem sk_153_132 : SKc 153 132 84 3 := ⟨⟨List.mem_of_getElem? (i := 808) (by decide +kernel), by decide +kernel⟩, List.mem_of_getElem? (i := 809) (by decide +kernel), mo_84, m0_84⟩
theorem d_153_75 : decode (mC 153) 75 = .ok (.ireturn, 1) := by decide +kernel
theorem mr_153 : mR 153 = some .int := by decide +kernel
theorem d_153_2 : decode (mC 153) 2 = .ok (.iload_n 2, 1) := by decide +kernel
theorem d_153_3 : decode (mC 153) 3 = .ok (.aload_n 0, 1) := by decide +kernel
theorem d_153_4 : decode (mC 153) 4 = .ok (.getfield 85, 3) := by decide +kernel
theorem d_153_7 : decode (mC 153) 7 = .ok (.arraylength, 1) := by decide +kernel
theorem d_153_8 : decode (mC 153) 8 = .ok (.if_icmp .ge 16, 3) := by decide +kernel
theorem d_153_11 : decode (mC 153) 11 = .ok (.aload_n 0, 1) := by decide +kernel
theorem d_153_12 : decode (mC 153) 12 = .ok (.getfield 85, 3) := by decide +kernel
theorem d_153_15 : decode (mC 153) 15 = .ok (.iload_n 2, 1) := by decide +kernel
theorem d_153_16 : decode (mC 153) 16 = .ok (.iconst (-1), 1) := by decide +kernel
theorem d_153_17 : decode (mC 153) 17 = .ok (.iastore, 1) := by decide +kernel
theorem d_153_18 : decode (mC 153) 18 = .ok (.iinc 2 1, 3) := by decide +kernel
theorem d_153_21 : decode (mC 153) 21 = .ok (.goto (-19), 3) := by decide +kernel
theorem d_153_0 : decode (mC 153) 0 = .ok (.iconst 0, 1) := by decide +kernel
theorem d_153_1 : decode (mC 153) 1 = .ok (.istore_n 2, 1) := by decide +kernel
theorem d_153_24 : decode (mC 153) 24 = .ok (.aload_n 0, 1) := by decide +kernel
theorem d_153_25 : decode (mC 153) 25 = .ok (.getfield 52, 3) := by decide +kernel
theorem d_153_28 : decode (mC 153) 28 = .ok (.aload_n 0, 1) := by decide +kernel
theorem d_153_29 : decode (mC 153) 29 = .ok (.getfield 45, 3) := by decide +kernel
theorem d_153_32 : decode (mC 153) 32 = .ok (.invokevirtual 114, 3) := by decide +kernel
theorem vk_153_114 : VK 153 114 78 0 0 := ⟨⟨List.mem_of_getElem? (i := 784) (by decide +kernel), by decide +kernel⟩, List.mem_of_getElem? (i := 785) (by decide +kernel), mo_78, m0_78, _, rfl, List.mem_of_getElem? (i := 786) (by decide +kernel), by decide⟩
theorem d_153_35 : decode (mC 153) 35 = .ok (.invokevirtual 199, 3) := by decide +kernel
theorem vk_153_199 : VK 153 199 95 1 8 := ⟨⟨List.mem_of_getElem? (i := 925) (by decide +kernel), by decide +kernel⟩, List.mem_of_getElem? (i := 854) (by decide +kernel), mo_95, m0_95, _, rfl, List.mem_of_getElem? (i := 855) (by decide +kernel), by decide⟩
theorem d_153_38 : decode (mC 153) 38 = .ok (.iconst 0, 1) := by decide +kernel
theorem d_153_39 : decode (mC 153) 39 = .ok (.istore_n 2, 1) := by decide +kernel
theorem d_153_101 : decode (mC 153) 101 = .ok (.iconst (-1), 1) := by decide +kernel
theorem d_153_102 : decode (mC 153) 102 = .ok (.ireturn, 1) := by decide +kernel
theorem d_154_16 : decode (mC 154) 16 = .ok (.iload 5, 2) := by decide +kernel
theorem d_154_18 : decode (mC 154) 18 = .ok (.aload_n 0, 1) := by decide +kernel
theorem d_154_19 : decode (mC 154) 19 = .ok (.getfield 35, 3) := by decide +kernel
theorem cn_154 : (mN 154).cls = "CordLoft" := by decide +kernel
theorem d_154_22 : decode (mC 154) 22 = .ok (.invokevirtual 268, 3) := by decide +kernel
theorem vk_154_268 : VK 154 268 115 0 4 := ⟨⟨List.mem_of_getElem? (i := 1101) (by decide +kernel), by decide +kernel⟩, List.mem_of_getElem? (i := 935) (by decide +kernel), mo_115, m0_115, _, rfl, List.mem_of_getElem? (i := 936) (by decide +kernel), by decide⟩
theorem d_154_25 : decode (mC 154) 25 = .ok (.if_icmp .ge 46, 3) := by decide +kernel
theorem d_154_28 : decode (mC 154) 28 = .ok (.aload_n 0, 1) := by decide +kernel
theorem d_154_29 : decode (mC 154) 29 = .ok (.getfield 35, 3) := by decide +kernel
theorem d_154_32 : decode (mC 154) 32 = .ok (.iload 5, 2) := by decide +kernel
theorem d_154_34 : decode (mC 154) 34 = .ok (.aload_n 2, 1) := by decide +kernel
theorem d_154_35 : decode (mC 154) 35 = .ok (.getfield 185, 3) := by decide +kernel
theorem d_154_38 : decode (mC 154) 38 = .ok (.invokevirtual 271, 3) := by decide +kernel
theorem vk_154_271 : VK 154 271 101 2 4 := ⟨⟨List.mem_of_getElem? (i := 1102) (by decide +kernel), by decide +kernel⟩, List.mem_of_getElem? (i := 878) (by decide +kernel), mo_101, m0_101, _, rfl, List.mem_of_getElem? (i := 879) (by decide +kernel), by decide⟩
theorem d_154_41 : decode (mC 154) 41 = .ok (.aload_n 2, 1) := by decide +kernel
theorem d_154_42 : decode (mC 154) 42 = .ok (.getfield 140, 3) := by decide +kernel
theorem d_154_45 : decode (mC 154) 45 = .ok (.if_icmp .ne 20, 3) := by decide +kernel
theorem d_154_65 : decode (mC 154) 65 = .ok (.iinc 5 1, 3) := by decide +kernel
theorem ml_154 : mL 154 = 6 := by decide +kernel
theorem d_154_68 : decode (mC 154) 68 = .ok (.goto (-52), 3) := by decide +kernel
theorem d_154_48 : decode (mC 154) 48 = .ok (.iinc 3 1, 3) := by decide +kernel
theorem d_154_51 : decode (mC 154) 51 = .ok (.iload 4, 2) := by decide +kernel
theorem d_154_53 : decode (mC 154) 53 = .ok (.ifCond .ge 8, 3) := by decide +kernel
theorem d_154_61 : decode (mC 154) 61 = .ok (.iload 4, 2) := by decide +kernel
theorem d_154_63 : decode (mC 154) 63 = .ok (.istore 4, 2) := by decide +kernel
theorem d_154_56 : decode (mC 154) 56 = .ok (.iload 5, 2) := by decide +kernel
theorem d_154_58 : decode (mC 154) 58 = .ok (.goto 5, 3) := by decide +kernel
theorem d_154_0 : decode (mC 154) 0 = .ok (.aload_n 0, 1) := by decide +kernel
theorem d_154_1 : decode (mC 154) 1 = .ok (.getfield 45, 3) := by decide +kernel
theorem d_154_4 : decode (mC 154) 4 = .ok (.invokevirtual 114, 3) := by decide +kernel
theorem vk_154_114 : VK 154 114 78 0 0 := ⟨⟨List.mem_of_getElem? (i := 784) (by decide +kernel), by decide +kernel⟩, List.mem_of_getElem? (i := 785) (by decide +kernel), mo_78, m0_78, _, rfl, List.mem_of_getElem? (i := 786) (by decide +kernel), by decide⟩
theorem d_154_7 : decode (mC 154) 7 = .ok (.astore_n 2, 1) := by decide +kernel
theorem d_154_8 : decode (mC 154) 8 = .ok (.iconst 0, 1) := by decide +kernel
theorem d_154_9 : decode (mC 154) 9 = .ok (.istore_n 3, 1) := by decide +kernel
theorem d_154_10 : decode (mC 154) 10 = .ok (.iconst (-1), 1) := by decide +kernel
theorem d_154_11 : decode (mC 154) 11 = .ok (.istore 4, 2) := by decide +kernel
theorem d_154_13 : decode (mC 154) 13 = .ok (.iconst 0, 1) := by decide +kernel
theorem d_154_14 : decode (mC 154) 14 = .ok (.istore 5, 2) := by decide +kernel
theorem d_154_71 : decode (mC 154) 71 = .ok (.iload_n 1, 1) := by decide +kernel
theorem d_154_72 : decode (mC 154) 72 = .ok (.iload_n 3, 1) := by decide +kernel
theorem d_154_73 : decode (mC 154) 73 = .ok (.iload 4, 2) := by decide +kernel
theorem d_154_75 : decode (mC 154) 75 = .ok (.invokestatic 132, 3) := by decide +kernel
theorem sk_154_132 : SKc 154 132 84 3 := ⟨⟨List.mem_of_getElem? (i := 808) (by decide +kernel), by decide +kernel⟩, List.mem_of_getElem? (i := 809) (by decide +kernel), mo_84, m0_84⟩
theorem d_154_78 : decode (mC 154) 78 = .ok (.ireturn, 1) := by decide +kernel
theorem mr_154 : mR 154 = some .int := by decide +kernel
theorem d_155_15 : decode (mC 155) 15 = .ok (.iload_n 3, 1) := by decide +kernel
theorem d_155_16 : decode (mC 155) 16 = .ok (.aload_n 0, 1) := by decide +kernel
theorem d_155_17 : decode (mC 155) 17 = .ok (.getfield 35, 3) := by decide +kernel
theorem cn_155 : (mN 155).cls = "CordLoft" := by decide +kernel
theorem d_155_20 : decode (mC 155) 20 = .ok (.invokevirtual 268, 3) := by decide +kernel
theorem vk_155_268 : VK 155 268 115 0 4 := ⟨⟨List.mem_of_getElem? (i := 1101) (by decide +kernel), by decide +kernel⟩, List.mem_of_getElem? (i := 935) (by decide +kernel), mo_115, m0_115, _, rfl, List.mem_of_getElem? (i := 936) (by decide +kernel), by decide⟩
theorem d_155_23 : decode (mC 155) 23 = .ok (.if_icmp .ge 25, 3) := by decide +kernel
theorem d_155_26 : decode (mC 155) 26 = .ok (.aload_n 0, 1) := by decide +kernel
theorem d_155_27 : decode (mC 155) 27 = .ok (.getfield 35, 3) := by decide +kernel
theorem d_155_30 : decode (mC 155) 30 = .ok (.iload_n 3, 1) := by decide +kernel
theorem d_155_31 : decode (mC 155) 31 = .ok (.iload_n 1, 1) := by decide +kernel
theorem d_155_32 : decode (mC 155) 32 = .ok (.invokevirtual 271, 3) := by decide +kernel
theorem vk_155_271 : VK 155 271 101 2 4 := ⟨⟨List.mem_of_getElem? (i := 1102) (by decide +kernel), by decide +kernel⟩, List.mem_of_getElem? (i := 878) (by decide +kernel), mo_101, m0_101, _, rfl, List.mem_of_getElem? (i := 879) (by decide +kernel), by decide⟩
theorem d_155_35 : decode (mC 155) 35 = .ok (.iload_n 3, 1) := by decide +kernel
theorem d_155_36 : decode (mC 155) 36 = .ok (.if_icmp .ne 6, 3) := by decide +kernel
theorem d_155_42 : decode (mC 155) 42 = .ok (.iinc 3 1, 3) := by decide +kernel
theorem ml_155 : mL 155 = 4 := by decide +kernel
theorem d_155_45 : decode (mC 155) 45 = .ok (.goto (-30), 3) := by decide +kernel
theorem d_155_39 : decode (mC 155) 39 = .ok (.iinc 2 1, 3) := by decide +kernel
theorem d_155_0 : decode (mC 155) 0 = .ok (.aload_n 0, 1) := by decide +kernel
theorem d_155_1 : decode (mC 155) 1 = .ok (.getfield 45, 3) := by decide +kernel
theorem d_155_4 : decode (mC 155) 4 = .ok (.invokevirtual 114, 3) := by decide +kernel
theorem vk_155_114 : VK 155 114 78 0 0 := ⟨⟨List.mem_of_getElem? (i := 784) (by decide +kernel), by decide +kernel⟩, List.mem_of_getElem? (i := 785) (by decide +kernel), mo_78, m0_78, _, rfl, List.mem_of_getElem? (i := 786) (by decide +kernel), by decide⟩
theorem d_155_7 : decode (mC 155) 7 = .ok (.getfield 185, 3) := by decide +kernel
theorem d_155_10 : decode (mC 155) 10 = .ok (.istore_n 1, 1) := by decide +kernel
theorem d_155_11 : decode (mC 155) 11 = .ok (.iconst 0, 1) := by decide +kernel
theorem d_155_12 : decode (mC 155) 12 = .ok (.istore_n 2, 1) := by decide +kernel
theorem d_155_13 : decode (mC 155) 13 = .ok (.iconst 0, 1) := by decide +kernel
theorem d_155_14 : decode (mC 155) 14 = .ok (.istore_n 3, 1) := by decide +kernel
theorem d_155_48 : decode (mC 155) 48 = .ok (.iload_n 2, 1) := by decide +kernel
theorem d_155_49 : decode (mC 155) 49 = .ok (.ireturn, 1) := by decide +kernel
theorem mr_155 : mR 155 = some .int := by decide +kernel
theorem d_156_0 : decode (mC 156) 0 = .ok (.aload_n 0, 1) := by decide +kernel
theorem d_156_1 : decode (mC 156) 1 = .ok (.iload_n 1, 1) := by decide +kernel
theorem d_156_2 : decode (mC 156) 2 = .ok (.invokevirtual 164, 3) := by decide +kernel
theorem vk_156_164 : VK 156 164 91 1 11 := ⟨⟨List.mem_of_getElem? (i := 835) (by decide +kernel), by decide +kernel⟩, List.mem_of_getElem? (i := 837) (by decide +kernel), mo_91, m0_91, _, rfl, List.mem_of_getElem? (i := 17) (by decide +kernel), by decide⟩
theorem d_156_5 : decode (mC 156) 5 = .ok (.ifCond .ne 5, 3) := by decide +kernel
theorem d_156_10 : decode (mC 156) 10 = .ok (.aload_n 0, 1) := by decide +kernel
theorem d_156_11 : decode (mC 156) 11 = .ok (.invokevirtual 223, 3) := by decide +kernel
theorem vk_156_223 : VK 156 223 129 0 11 := ⟨⟨List.mem_of_getElem? (i := 992) (by decide +kernel), by decide +kernel⟩, List.mem_of_getElem? (i := 994) (by decide +kernel), mo_129, m0_129, _, rfl, List.mem_of_getElem? (i := 22) (by decide +kernel), by decide⟩
theorem d_156_14 : decode (mC 156) 14 = .ok (.istore_n 2, 1) := by decide +kernel
theorem ml_156 : mL 156 = 3 := by decide +kernel
theorem d_156_15 : decode (mC 156) 15 = .ok (.aload_n 0, 1) := by decide +kernel
theorem d_156_16 : decode (mC 156) 16 = .ok (.getfield 67, 3) := by decide +kernel
theorem cn_156 : (mN 156).cls = "CordLoft" := by decide +kernel
theorem d_156_19 : decode (mC 156) 19 = .ok (.aload_n 0, 1) := by decide +kernel
theorem d_156_20 : decode (mC 156) 20 = .ok (.getfield 35, 3) := by decide +kernel
theorem d_156_23 : decode (mC 156) 23 = .ok (.iload_n 2, 1) := by decide +kernel
theorem d_156_24 : decode (mC 156) 24 = .ok (.invokevirtual 227, 3) := by decide +kernel
theorem vk_156_227 : VK 156 227 130 2 6 := ⟨⟨List.mem_of_getElem? (i := 997) (by decide +kernel), by decide +kernel⟩, List.mem_of_getElem? (i := 998) (by decide +kernel), mo_130, m0_130, _, rfl, List.mem_of_getElem? (i := 999) (by decide +kernel), by decide⟩
theorem d_156_27 : decode (mC 156) 27 = .ok (.aload_n 0, 1) := by decide +kernel
theorem d_156_28 : decode (mC 156) 28 = .ok (.getfield 67, 3) := by decide +kernel
theorem d_156_31 : decode (mC 156) 31 = .ok (.aload_n 0, 1) := by decide +kernel
theorem d_156_32 : decode (mC 156) 32 = .ok (.getfield 35, 3) := by decide +kernel
theorem d_156_35 : decode (mC 156) 35 = .ok (.iload_n 2, 1) := by decide +kernel
theorem d_156_36 : decode (mC 156) 36 = .ok (.iconst 1, 1) := by decide +kernel
theorem d_156_37 : decode (mC 156) 37 = .ok (.iload_n 1, 1) := by decide +kernel
theorem d_156_38 : decode (mC 156) 38 = .ok (.ishl, 1) := by decide +kernel
theorem d_156_39 : decode (mC 156) 39 = .ok (.iconst (-1), 1) := by decide +kernel
theorem d_156_40 : decode (mC 156) 40 = .ok (.ixor, 1) := by decide +kernel
theorem d_156_41 : decode (mC 156) 41 = .ok (.iand, 1) := by decide +kernel
theorem d_156_42 : decode (mC 156) 42 = .ok (.invokevirtual 227, 3) := by decide +kernel
theorem d_156_45 : decode (mC 156) 45 = .ok (.isub, 1) := by decide +kernel
theorem d_156_46 : decode (mC 156) 46 = .ok (.ireturn, 1) := by decide +kernel
theorem mr_156 : mR 156 = some .int := by decide +kernel
theorem d_156_8 : decode (mC 156) 8 = .ok (.iconst (-1), 1) := by decide +kernel
theorem d_156_9 : decode (mC 156) 9 = .ok (.ireturn, 1) := by decide +kernel
theorem d_158_9 : decode (mC 158) 9 = .ok (.iload_n 3, 1) := by decide +kernel
theorem d_158_10 : decode (mC 158) 10 = .ok (.aload_n 1, 1) := by decide +kernel
theorem d_158_11 : decode (mC 158) 11 = .ok (.invokevirtual 71, 3) := by decide +kernel
theorem vk_158_71 : VK 158 71 115 0 4 := ⟨⟨List.mem_of_getElem? (i := 1058) (by decide +kernel), by decide +kernel⟩, List.mem_of_getElem? (i := 935) (by decide +kernel), mo_115, m0_115, _, rfl, List.mem_of_getElem? (i := 936) (by decide +kernel), by decide⟩
theorem d_158_14 : decode (mC 158) 14 = .ok (.if_icmp .ge 19, 3) := by decide +kernel
theorem d_158_17 : decode (mC 158) 17 = .ok (.aload_n 0, 1) := by decide +kernel
theorem d_158_18 : decode (mC 158) 18 = .ok (.iload_n 3, 1) := by decide +kernel
theorem d_158_19 : decode (mC 158) 19 = .ok (.invokevirtual 80, 3) := by decide +kernel
theorem vk_158_80 : VK 158 80 131 1 6 := ⟨⟨List.mem_of_getElem? (i := 1001) (by decide +kernel), by decide +kernel⟩, List.mem_of_getElem? (i := 1003) (by decide +kernel), mo_131, m0_131, _, rfl, List.mem_of_getElem? (i := 23) (by decide +kernel), by decide⟩
theorem d_158_22 : decode (mC 158) 22 = .ok (.ifCond .eq 5, 3) := by decide +kernel
theorem d_158_27 : decode (mC 158) 27 = .ok (.iinc 3 1, 3) := by decide +kernel
theorem ml_158 : mL 158 = 4 := by decide +kernel
theorem d_158_30 : decode (mC 158) 30 = .ok (.goto (-21), 3) := by decide +kernel
theorem d_158_25 : decode (mC 158) 25 = .ok (.iload_n 3, 1) := by decide +kernel
theorem d_158_26 : decode (mC 158) 26 = .ok (.ireturn, 1) := by decide +kernel
theorem mr_158 : mR 158 = some .int := by decide +kernel
theorem d_158_0 : decode (mC 158) 0 = .ok (.aload_n 0, 1) := by decide +kernel
theorem d_158_1 : decode (mC 158) 1 = .ok (.aload_n 1, 1) := by decide +kernel
theorem d_158_2 : decode (mC 158) 2 = .ok (.iload_n 2, 1) := by decide +kernel
theorem d_158_3 : decode (mC 158) 3 = .ok (.invokevirtual 86, 3) := by decide +kernel
theorem vk_158_86 : VK 158 86 130 2 6 := ⟨⟨List.mem_of_getElem? (i := 1119) (by decide +kernel), by decide +kernel⟩, List.mem_of_getElem? (i := 998) (by decide +kernel), mo_130, m0_130, _, rfl, List.mem_of_getElem? (i := 999) (by decide +kernel), by decide⟩
theorem d_158_6 : decode (mC 158) 6 = .ok (.pop, 1) := by decide +kernel
theorem d_158_7 : decode (mC 158) 7 = .ok (.iconst 1, 1) := by decide +kernel
theorem d_158_8 : decode (mC 158) 8 = .ok (.istore_n 3, 1) := by decide +kernel
theorem d_158_33 : decode (mC 158) 33 = .ok (.iconst 0, 1) := by decide +kernel
theorem d_158_34 : decode (mC 158) 34 = .ok (.ireturn, 1) := by decide +kernel
theorem d_157_0 : decode (mC 157) 0 = .ok (.aload_n 0, 1) := by decide +kernel
theorem d_157_1 : decode (mC 157) 1 = .ok (.getfield 67, 3) := by decide +kernel
theorem cn_157 : (mN 157).cls = "CordLoft" := by decide +kernel
theorem d_157_4 : decode (mC 157) 4 = .ok (.aload_n 0, 1) := by decide +kernel
theorem d_157_5 : decode (mC 157) 5 = .ok (.getfield 35, 3) := by decide +kernel
theorem d_157_8 : decode (mC 157) 8 = .ok (.aload_n 0, 1) := by decide +kernel
theorem d_157_9 : decode (mC 157) 9 = .ok (.invokevirtual 223, 3) := by decide +kernel
theorem vk_157_223 : VK 157 223 129 0 11 := ⟨⟨List.mem_of_getElem? (i := 992) (by decide +kernel), by decide +kernel⟩, List.mem_of_getElem? (i := 994) (by decide +kernel), mo_129, m0_129, _, rfl, List.mem_of_getElem? (i := 22) (by decide +kernel), by decide⟩
theorem d_157_12 : decode (mC 157) 12 = .ok (.invokevirtual 227, 3) := by decide +kernel
theorem vk_157_227 : VK 157 227 130 2 6 := ⟨⟨List.mem_of_getElem? (i := 997) (by decide +kernel), by decide +kernel⟩, List.mem_of_getElem? (i := 998) (by decide +kernel), mo_130, m0_130, _, rfl, List.mem_of_getElem? (i := 999) (by decide +kernel), by decide⟩
theorem d_157_15 : decode (mC 157) 15 = .ok (.istore_n 2, 1) := by decide +kernel
theorem ml_157 : mL 157 = 3 := by decide +kernel
theorem d_157_16 : decode (mC 157) 16 = .ok (.iload_n 2, 1) := by decide +kernel
theorem d_157_17 : decode (mC 157) 17 = .ok (.aload_n 0, 1) := by decide +kernel
theorem d_157_18 : decode (mC 157) 18 = .ok (.getfield 35, 3) := by decide +kernel
theorem d_157_21 : decode (mC 157) 21 = .ok (.invokevirtual 268, 3) := by decide +kernel
theorem vk_157_268 : VK 157 268 115 0 4 := ⟨⟨List.mem_of_getElem? (i := 1101) (by decide +kernel), by decide +kernel⟩, List.mem_of_getElem? (i := 935) (by decide +kernel), mo_115, m0_115, _, rfl, List.mem_of_getElem? (i := 936) (by decide +kernel), by decide⟩
theorem d_157_24 : decode (mC 157) 24 = .ok (.if_icmp .ne 10, 3) := by decide +kernel
theorem d_157_34 : decode (mC 157) 34 = .ok (.iload_n 1, 1) := by decide +kernel
theorem d_157_35 : decode (mC 157) 35 = .ok (.aload_n 0, 1) := by decide +kernel
theorem d_157_36 : decode (mC 157) 36 = .ok (.getfield 67, 3) := by decide +kernel
theorem d_157_39 : decode (mC 157) 39 = .ok (.aload_n 0, 1) := by decide +kernel
theorem d_157_40 : decode (mC 157) 40 = .ok (.getfield 35, 3) := by decide +kernel
theorem d_157_43 : decode (mC 157) 43 = .ok (.aload_n 0, 1) := by decide +kernel
theorem d_157_44 : decode (mC 157) 44 = .ok (.invokevirtual 223, 3) := by decide +kernel
theorem d_157_47 : decode (mC 157) 47 = .ok (.invokevirtual 275, 3) := by decide +kernel
theorem mo_158 : MOK 158 := ⟨List.mem_of_getElem? (i := 1118) (by decide +kernel), by decide +kernel, ⟨by decide +kernel, by decide +kernel⟩, List.mem_of_getElem? (i := 96) (by decide +kernel), by decide +kernel⟩
theorem m0_158 : M0K 158 := ⟨by decide +kernel, by decide +kernel⟩
theorem vk_157_275 : VK 157 275 158 2 6 := ⟨⟨List.mem_of_getElem? (i := 1115) (by decide +kernel), by decide +kernel⟩, List.mem_of_getElem? (i := 1116) (by decide +kernel), mo_158, m0_158, _, rfl, List.mem_of_getElem? (i := 1117) (by decide +kernel), by decide⟩
theorem d_157_50 : decode (mC 157) 50 = .ok (.iload_n 2, 1) := by decide +kernel
theorem d_157_51 : decode (mC 157) 51 = .ok (.iconst 2, 1) := by decide +kernel
theorem d_157_52 : decode (mC 157) 52 = .ok (.imul, 1) := by decide +kernel
theorem d_157_53 : decode (mC 157) 53 = .ok (.invokestatic 132, 3) := by decide +kernel
theorem sk_157_132 : SKc 157 132 84 3 := ⟨⟨List.mem_of_getElem? (i := 808) (by decide +kernel), by decide +kernel⟩, List.mem_of_getElem? (i := 809) (by decide +kernel), mo_84, m0_84⟩
theorem d_157_56 : decode (mC 157) 56 = .ok (.ireturn, 1) := by decide +kernel
theorem mr_157 : mR 157 = some .int := by decide +kernel
theorem d_157_27 : decode (mC 157) 27 = .ok (.iload_n 1, 1) := by decide +kernel
theorem d_157_28 : decode (mC 157) 28 = .ok (.iconst 0, 1) := by decide +kernel
theorem d_157_29 : decode (mC 157) 29 = .ok (.iload_n 2, 1) := by decide +kernel
theorem d_157_30 : decode (mC 157) 30 = .ok (.invokestatic 132, 3) := by decide +kernel
theorem d_157_33 : decode (mC 157) 33 = .ok (.ireturn, 1) := by decide +kernel
theorem d_161_23 : decode (mC 161) 23 = .ok (.iload 7, 2) := by decide +kernel
theorem d_161_25 : decode (mC 161) 25 = .ok (.iload_n 2, 1) := by decide +kernel
theorem d_161_26 : decode (mC 161) 26 = .ok (.if_icmp .ge 59, 3) := by decide +kernel
theorem d_161_29 : decode (mC 161) 29 = .ok (.aload_n 0, 1) := by decide +kernel
theorem d_161_30 : decode (mC 161) 30 = .ok (.getfield 24, 3) := by decide +kernel
theorem fk_CordLoft_Sets_24 : FK 2 "CordLoft$Sets" 24 6 2 := ⟨⟨_, rfl, by decide, List.mem_of_getElem? (i := 390) (by decide +kernel)⟩, rfl, by decide⟩
theorem cn_161 : (mN 161).cls = "CordLoft$Sets" := by decide +kernel
theorem ft_7_2 : finT 7 2 = some (89, 0) := by decide +kernel
theorem k_89 : kd0 89 = 20 := by decide +kernel
theorem l_89 : ln0 89 = 256 := by decide +kernel
theorem d_161_33 : decode (mC 161) 33 = .ok (.iload 7, 2) := by decide +kernel
theorem d_161_35 : decode (mC 161) 35 = .ok (.iaload, 1) := by decide +kernel
theorem d_161_36 : decode (mC 161) 36 = .ok (.iload_n 3, 1) := by decide +kernel
theorem d_161_37 : decode (mC 161) 37 = .ok (.ishr, 1) := by decide +kernel
theorem d_161_38 : decode (mC 161) 38 = .ok (.iconst 1, 1) := by decide +kernel
theorem d_161_39 : decode (mC 161) 39 = .ok (.iand, 1) := by decide +kernel
theorem d_161_40 : decode (mC 161) 40 = .ok (.istore 8, 2) := by decide +kernel
theorem ml_161 : mL 161 = 10 := by decide +kernel
theorem d_161_42 : decode (mC 161) 42 = .ok (.aload_n 0, 1) := by decide +kernel
theorem d_161_43 : decode (mC 161) 43 = .ok (.getfield 24, 3) := by decide +kernel
theorem d_161_46 : decode (mC 161) 46 = .ok (.iload 7, 2) := by decide +kernel
theorem d_161_48 : decode (mC 161) 48 = .ok (.iaload, 1) := by decide +kernel
theorem d_161_49 : decode (mC 161) 49 = .ok (.iload 4, 2) := by decide +kernel
theorem d_161_51 : decode (mC 161) 51 = .ok (.ishr, 1) := by decide +kernel
theorem d_161_52 : decode (mC 161) 52 = .ok (.iconst 1, 1) := by decide +kernel
theorem d_161_53 : decode (mC 161) 53 = .ok (.iand, 1) := by decide +kernel
theorem d_161_54 : decode (mC 161) 54 = .ok (.istore 9, 2) := by decide +kernel
theorem d_161_56 : decode (mC 161) 56 = .ok (.iload 6, 2) := by decide +kernel
theorem d_161_58 : decode (mC 161) 58 = .ok (.aload_n 0, 1) := by decide +kernel
theorem d_161_59 : decode (mC 161) 59 = .ok (.getfield 27, 3) := by decide +kernel
theorem fk_CordLoft_Sets_27 : FK 2 "CordLoft$Sets" 27 6 3 := ⟨⟨_, rfl, by decide, List.mem_of_getElem? (i := 391) (by decide +kernel)⟩, rfl, by decide⟩
theorem ft_7_3 : finT 7 3 = some (90, 0) := by decide +kernel
theorem k_90 : kd0 90 = 20 := by decide +kernel
theorem l_90 : ln0 90 = 256 := by decide +kernel
theorem d_161_62 : decode (mC 161) 62 = .ok (.iload 7, 2) := by decide +kernel
theorem d_161_64 : decode (mC 161) 64 = .ok (.iaload, 1) := by decide +kernel
theorem d_161_65 : decode (mC 161) 65 = .ok (.iload 8, 2) := by decide +kernel
theorem d_161_67 : decode (mC 161) 67 = .ok (.iload 9, 2) := by decide +kernel
theorem d_161_69 : decode (mC 161) 69 = .ok (.isub, 1) := by decide +kernel
theorem d_161_70 : decode (mC 161) 70 = .ok (.iload 5, 2) := by decide +kernel
theorem d_161_72 : decode (mC 161) 72 = .ok (.imul, 1) := by decide +kernel
theorem d_161_73 : decode (mC 161) 73 = .ok (.iadd, 1) := by decide +kernel
theorem d_161_74 : decode (mC 161) 74 = .ok (.invokestatic 101, 3) := by decide +kernel
theorem mk_CordLoft_Sets_101 : Cond.methodLink "CordLoft$Sets" 101 Lib.Math.min.name ∈ lw_tbl := List.mem_of_getElem? (i := 1129) (by decide +kernel)
theorem d_161_77 : decode (mC 161) 77 = .ok (.istore 6, 2) := by decide +kernel
theorem d_161_79 : decode (mC 161) 79 = .ok (.iinc 7 1, 3) := by decide +kernel
theorem d_161_82 : decode (mC 161) 82 = .ok (.goto (-59), 3) := by decide +kernel
theorem d_161_0 : decode (mC 161) 0 = .ok (.aload_n 1, 1) := by decide +kernel
theorem d_161_1 : decode (mC 161) 1 = .ok (.getfield 114, 3) := by decide +kernel
theorem fk_CordLoft_Sets_114 : FK 2 "CordLoft$Sets" 114 4 9 := ⟨⟨_, rfl, by decide, List.mem_of_getElem? (i := 259) (by decide +kernel)⟩, rfl, by decide⟩
theorem d_161_4 : decode (mC 161) 4 = .ok (.iload 4, 2) := by decide +kernel
theorem d_161_6 : decode (mC 161) 6 = .ok (.iaload, 1) := by decide +kernel
theorem d_161_7 : decode (mC 161) 7 = .ok (.aload_n 1, 1) := by decide +kernel
theorem d_161_8 : decode (mC 161) 8 = .ok (.getfield 114, 3) := by decide +kernel
theorem d_161_11 : decode (mC 161) 11 = .ok (.iload_n 3, 1) := by decide +kernel
theorem d_161_12 : decode (mC 161) 12 = .ok (.iaload, 1) := by decide +kernel
theorem d_161_13 : decode (mC 161) 13 = .ok (.isub, 1) := by decide +kernel
theorem d_161_14 : decode (mC 161) 14 = .ok (.istore 5, 2) := by decide +kernel
theorem d_161_16 : decode (mC 161) 16 = .ok (.ldc 100, 2) := by decide +kernel
theorem cw_CordLoft_Sets_100 : Cond.constant "CordLoft$Sets" 100 2147483647 ∈ lw_tbl := List.mem_of_getElem? (i := 1128) (by decide +kernel)
theorem d_161_18 : decode (mC 161) 18 = .ok (.istore 6, 2) := by decide +kernel
theorem d_161_20 : decode (mC 161) 20 = .ok (.iconst 0, 1) := by decide +kernel
theorem d_161_21 : decode (mC 161) 21 = .ok (.istore 7, 2) := by decide +kernel
theorem d_161_85 : decode (mC 161) 85 = .ok (.iload 6, 2) := by decide +kernel
theorem d_161_87 : decode (mC 161) 87 = .ok (.ireturn, 1) := by decide +kernel
theorem mr_161 : mR 161 = some .int := by decide +kernel
theorem d_160_109 : decode (mC 160) 109 = .ok (.iload 6, 2) := by decide +kernel
theorem d_160_111 : decode (mC 160) 111 = .ok (.aload_n 1, 1) := by decide +kernel
theorem d_160_112 : decode (mC 160) 112 = .ok (.getfield 74, 3) := by decide +kernel
theorem cn_160 : (mN 160).cls = "CordLoft$Sets" := by decide +kernel
theorem d_160_115 : decode (mC 160) 115 = .ok (.if_icmp .ge 45, 3) := by decide +kernel
theorem d_160_118 : decode (mC 160) 118 = .ok (.aload_n 0, 1) := by decide +kernel
theorem d_160_119 : decode (mC 160) 119 = .ok (.aload_n 1, 1) := by decide +kernel
theorem d_160_120 : decode (mC 160) 120 = .ok (.iload_n 3, 1) := by decide +kernel
theorem d_160_121 : decode (mC 160) 121 = .ok (.iload 5, 2) := by decide +kernel
theorem d_160_123 : decode (mC 160) 123 = .ok (.iload 6, 2) := by decide +kernel
theorem d_160_125 : decode (mC 160) 125 = .ok (.invokevirtual 107, 3) := by decide +kernel
theorem mo_161 : MOK 161 := ⟨List.mem_of_getElem? (i := 1133) (by decide +kernel), by decide +kernel, ⟨by decide +kernel, by decide +kernel⟩, List.mem_of_getElem? (i := 96) (by decide +kernel), by decide +kernel⟩
theorem m0_161 : M0K 161 := ⟨by decide +kernel, by decide +kernel⟩
theorem vk_160_107 : VK 160 107 161 4 6 := ⟨⟨List.mem_of_getElem? (i := 1130) (by decide +kernel), by decide +kernel⟩, List.mem_of_getElem? (i := 1132) (by decide +kernel), mo_161, m0_161, _, rfl, List.mem_of_getElem? (i := 26) (by decide +kernel), by decide⟩
theorem d_160_128 : decode (mC 160) 128 = .ok (.istore 7, 2) := by decide +kernel
theorem ml_160 : mL 160 = 8 := by decide +kernel
theorem d_160_130 : decode (mC 160) 130 = .ok (.iload 7, 2) := by decide +kernel
theorem d_160_132 : decode (mC 160) 132 = .ok (.iload 4, 2) := by decide +kernel
theorem d_160_134 : decode (mC 160) 134 = .ok (.if_icmp .ge 20, 3) := by decide +kernel
theorem d_160_154 : decode (mC 160) 154 = .ok (.iinc 6 1, 3) := by decide +kernel
theorem d_160_157 : decode (mC 160) 157 = .ok (.goto (-48), 3) := by decide +kernel
theorem d_160_137 : decode (mC 160) 137 = .ok (.aload_n 0, 1) := by decide +kernel
theorem d_160_138 : decode (mC 160) 138 = .ok (.getfield 12, 3) := by decide +kernel
theorem d_160_141 : decode (mC 160) 141 = .ok (.iload 7, 2) := by decide +kernel
theorem d_160_143 : decode (mC 160) 143 = .ok (.iload 5, 2) := by decide +kernel
theorem d_160_145 : decode (mC 160) 145 = .ok (.bipush 8, 2) := by decide +kernel
theorem d_160_147 : decode (mC 160) 147 = .ok (.imul, 1) := by decide +kernel
theorem d_160_148 : decode (mC 160) 148 = .ok (.iload 6, 2) := by decide +kernel
theorem d_160_150 : decode (mC 160) 150 = .ok (.iadd, 1) := by decide +kernel
theorem d_160_151 : decode (mC 160) 151 = .ok (.invokevirtual 58, 3) := by decide +kernel
theorem vk_160_58 : VK 160 58 121 2 1 := ⟨⟨List.mem_of_getElem? (i := 959) (by decide +kernel), by decide +kernel⟩, List.mem_of_getElem? (i := 960) (by decide +kernel), mo_121, m0_121, _, rfl, List.mem_of_getElem? (i := 961) (by decide +kernel), by decide⟩
theorem d_160_94 : decode (mC 160) 94 = .ok (.iload 5, 2) := by decide +kernel
theorem d_160_96 : decode (mC 160) 96 = .ok (.aload_n 1, 1) := by decide +kernel
theorem d_160_97 : decode (mC 160) 97 = .ok (.getfield 74, 3) := by decide +kernel
theorem d_160_100 : decode (mC 160) 100 = .ok (.if_icmp .ge 66, 3) := by decide +kernel
theorem d_160_103 : decode (mC 160) 103 = .ok (.iload 5, 2) := by decide +kernel
theorem d_160_105 : decode (mC 160) 105 = .ok (.iconst 1, 1) := by decide +kernel
theorem d_160_106 : decode (mC 160) 106 = .ok (.iadd, 1) := by decide +kernel
theorem d_160_107 : decode (mC 160) 107 = .ok (.istore 6, 2) := by decide +kernel
theorem d_160_160 : decode (mC 160) 160 = .ok (.iinc 5 1, 3) := by decide +kernel
theorem d_160_163 : decode (mC 160) 163 = .ok (.goto (-69), 3) := by decide +kernel
theorem d_160_9 : decode (mC 160) 9 = .ok (.iload 5, 2) := by decide +kernel
theorem d_160_11 : decode (mC 160) 11 = .ok (.aload_n 1, 1) := by decide +kernel
theorem d_160_12 : decode (mC 160) 12 = .ok (.invokevirtual 33, 3) := by decide +kernel
theorem vk_160_33 : VK 160 33 117 0 4 := ⟨⟨List.mem_of_getElem? (i := 942) (by decide +kernel), by decide +kernel⟩, List.mem_of_getElem? (i := 943) (by decide +kernel), mo_117, m0_117, _, rfl, List.mem_of_getElem? (i := 944) (by decide +kernel), by decide⟩
theorem d_160_15 : decode (mC 160) 15 = .ok (.if_icmp .gt 69, 3) := by decide +kernel
theorem d_160_18 : decode (mC 160) 18 = .ok (.iload 5, 2) := by decide +kernel
theorem d_160_20 : decode (mC 160) 20 = .ok (.aload_n 2, 1) := by decide +kernel
theorem d_160_21 : decode (mC 160) 21 = .ok (.getfield 37, 3) := by decide +kernel
theorem d_160_24 : decode (mC 160) 24 = .ok (.iand, 1) := by decide +kernel
theorem d_160_25 : decode (mC 160) 25 = .ok (.ifCond .ne 53, 3) := by decide +kernel
theorem d_160_78 : decode (mC 160) 78 = .ok (.iinc 5 1, 3) := by decide +kernel
theorem d_160_81 : decode (mC 160) 81 = .ok (.goto (-72), 3) := by decide +kernel
theorem d_160_28 : decode (mC 160) 28 = .ok (.aload_n 1, 1) := by decide +kernel
theorem d_160_29 : decode (mC 160) 29 = .ok (.getfield 46, 3) := by decide +kernel
theorem d_160_32 : decode (mC 160) 32 = .ok (.iload 5, 2) := by decide +kernel
theorem d_160_34 : decode (mC 160) 34 = .ok (.iaload, 1) := by decide +kernel
theorem d_160_35 : decode (mC 160) 35 = .ok (.aload_n 2, 1) := by decide +kernel
theorem d_160_36 : decode (mC 160) 36 = .ok (.getfield 43, 3) := by decide +kernel
theorem d_160_39 : decode (mC 160) 39 = .ok (.if_icmp .ne 39, 3) := by decide +kernel
theorem d_160_42 : decode (mC 160) 42 = .ok (.aload_n 0, 1) := by decide +kernel
theorem d_160_43 : decode (mC 160) 43 = .ok (.getfield 24, 3) := by decide +kernel
theorem d_160_46 : decode (mC 160) 46 = .ok (.iload_n 3, 1) := by decide +kernel
theorem d_160_47 : decode (mC 160) 47 = .ok (.iload 5, 2) := by decide +kernel
theorem d_160_49 : decode (mC 160) 49 = .ok (.iastore, 1) := by decide +kernel
theorem d_160_50 : decode (mC 160) 50 = .ok (.aload_n 0, 1) := by decide +kernel
theorem d_160_51 : decode (mC 160) 51 = .ok (.getfield 27, 3) := by decide +kernel
theorem d_160_54 : decode (mC 160) 54 = .ok (.iload_n 3, 1) := by decide +kernel
theorem d_160_55 : decode (mC 160) 55 = .ok (.aload_n 1, 1) := by decide +kernel
theorem d_160_56 : decode (mC 160) 56 = .ok (.iload 5, 2) := by decide +kernel
theorem d_160_58 : decode (mC 160) 58 = .ok (.invokevirtual 65, 3) := by decide +kernel
theorem vk_160_65 : VK 160 65 124 1 4 := ⟨⟨List.mem_of_getElem? (i := 971) (by decide +kernel), by decide +kernel⟩, List.mem_of_getElem? (i := 972) (by decide +kernel), mo_124, m0_124, _, rfl, List.mem_of_getElem? (i := 973) (by decide +kernel), by decide⟩
theorem d_160_61 : decode (mC 160) 61 = .ok (.iastore, 1) := by decide +kernel
theorem d_160_62 : decode (mC 160) 62 = .ok (.iload 4, 2) := by decide +kernel
theorem d_160_64 : decode (mC 160) 64 = .ok (.aload_n 0, 1) := by decide +kernel
theorem d_160_65 : decode (mC 160) 65 = .ok (.getfield 27, 3) := by decide +kernel
theorem d_160_68 : decode (mC 160) 68 = .ok (.iload_n 3, 1) := by decide +kernel
theorem d_160_69 : decode (mC 160) 69 = .ok (.iaload, 1) := by decide +kernel
theorem d_160_70 : decode (mC 160) 70 = .ok (.invokestatic 101, 3) := by decide +kernel
theorem d_160_73 : decode (mC 160) 73 = .ok (.istore 4, 2) := by decide +kernel
theorem d_160_75 : decode (mC 160) 75 = .ok (.iinc 3 1, 3) := by decide +kernel
theorem d_160_0 : decode (mC 160) 0 = .ok (.iconst 0, 1) := by decide +kernel
theorem d_160_1 : decode (mC 160) 1 = .ok (.istore_n 3, 1) := by decide +kernel
theorem d_160_2 : decode (mC 160) 2 = .ok (.ldc 100, 2) := by decide +kernel
theorem d_160_4 : decode (mC 160) 4 = .ok (.istore 4, 2) := by decide +kernel
theorem d_160_6 : decode (mC 160) 6 = .ok (.iconst 0, 1) := by decide +kernel
theorem d_160_7 : decode (mC 160) 7 = .ok (.istore 5, 2) := by decide +kernel
theorem d_160_84 : decode (mC 160) 84 = .ok (.aload_n 0, 1) := by decide +kernel
theorem d_160_85 : decode (mC 160) 85 = .ok (.getfield 12, 3) := by decide +kernel
theorem d_160_88 : decode (mC 160) 88 = .ok (.invokevirtual 49, 3) := by decide +kernel
theorem vk_160_49 : VK 160 49 120 0 1 := ⟨⟨List.mem_of_getElem? (i := 954) (by decide +kernel), by decide +kernel⟩, List.mem_of_getElem? (i := 955) (by decide +kernel), mo_120, m0_120, _, rfl, List.mem_of_getElem? (i := 956) (by decide +kernel), by decide⟩
theorem d_160_91 : decode (mC 160) 91 = .ok (.iconst 0, 1) := by decide +kernel
theorem d_160_92 : decode (mC 160) 92 = .ok (.istore 5, 2) := by decide +kernel
theorem d_160_166 : decode (mC 160) 166 = .ok (.aload_n 0, 1) := by decide +kernel
theorem d_160_167 : decode (mC 160) 167 = .ok (.aload_n 0, 1) := by decide +kernel
theorem d_160_168 : decode (mC 160) 168 = .ok (.getfield 12, 3) := by decide +kernel
theorem d_160_171 : decode (mC 160) 171 = .ok (.getfield 97, 3) := by decide +kernel
theorem d_160_174 : decode (mC 160) 174 = .ok (.putfield 111, 3) := by decide +kernel
theorem fp_CordLoft_Sets_111 : FP 0 "CordLoft$Sets" 111 6 6 := ⟨⟨_, rfl, by decide, List.mem_of_getElem? (i := 395) (by decide +kernel), rfl⟩, rfl, by decide, by decide +kernel⟩
theorem d_160_177 : decode (mC 160) 177 = .ok (.aload_n 0, 1) := by decide +kernel
theorem d_160_178 : decode (mC 160) 178 = .ok (.getfield 12, 3) := by decide +kernel
theorem d_160_181 : decode (mC 160) 181 = .ok (.getfield 62, 3) := by decide +kernel
theorem d_160_184 : decode (mC 160) 184 = .ok (.ireturn, 1) := by decide +kernel
theorem mr_160 : mR 160 = some .int := by decide +kernel
theorem d_159_0 : decode (mC 159) 0 = .ok (.iload_n 1, 1) := by decide +kernel
theorem d_159_1 : decode (mC 159) 1 = .ok (.ifCond .lt 8, 3) := by decide +kernel
theorem d_159_9 : decode (mC 159) 9 = .ok (.iconst (-1), 1) := by decide +kernel
theorem d_159_10 : decode (mC 159) 10 = .ok (.ireturn, 1) := by decide +kernel
theorem mr_159 : mR 159 = some .int := by decide +kernel
theorem d_159_4 : decode (mC 159) 4 = .ok (.iload_n 1, 1) := by decide +kernel
theorem d_159_5 : decode (mC 159) 5 = .ok (.iconst 2, 1) := by decide +kernel
theorem d_159_6 : decode (mC 159) 6 = .ok (.if_icmp .le 5, 3) := by decide +kernel
theorem d_159_11 : decode (mC 159) 11 = .ok (.aload_n 0, 1) := by decide +kernel
theorem d_159_12 : decode (mC 159) 12 = .ok (.getfield 67, 3) := by decide +kernel
theorem cn_159 : (mN 159).cls = "CordLoft" := by decide +kernel
theorem d_159_15 : decode (mC 159) 15 = .ok (.aload_n 0, 1) := by decide +kernel
theorem d_159_16 : decode (mC 159) 16 = .ok (.getfield 35, 3) := by decide +kernel
theorem d_159_19 : decode (mC 159) 19 = .ok (.aload_n 0, 1) := by decide +kernel
theorem d_159_20 : decode (mC 159) 20 = .ok (.getfield 45, 3) := by decide +kernel
theorem d_159_23 : decode (mC 159) 23 = .ok (.invokevirtual 114, 3) := by decide +kernel
theorem vk_159_114 : VK 159 114 78 0 0 := ⟨⟨List.mem_of_getElem? (i := 784) (by decide +kernel), by decide +kernel⟩, List.mem_of_getElem? (i := 785) (by decide +kernel), mo_78, m0_78, _, rfl, List.mem_of_getElem? (i := 786) (by decide +kernel), by decide⟩
theorem d_159_26 : decode (mC 159) 26 = .ok (.invokevirtual 278, 3) := by decide +kernel
theorem mo_160 : MOK 160 := ⟨List.mem_of_getElem? (i := 1127) (by decide +kernel), by decide +kernel, ⟨by decide +kernel, by decide +kernel⟩, List.mem_of_getElem? (i := 96) (by decide +kernel), by decide +kernel⟩
theorem m0_160 : M0K 160 := ⟨by decide +kernel, by decide +kernel⟩
theorem vk_159_278 : VK 159 278 160 2 6 := ⟨⟨List.mem_of_getElem? (i := 1124) (by decide +kernel), by decide +kernel⟩, List.mem_of_getElem? (i := 1125) (by decide +kernel), mo_160, m0_160, _, rfl, List.mem_of_getElem? (i := 1126) (by decide +kernel), by decide⟩
theorem d_159_29 : decode (mC 159) 29 = .ok (.istore_n 2, 1) := by decide +kernel
theorem ml_159 : mL 159 = 3 := by decide +kernel
theorem d_159_30 : decode (mC 159) 30 = .ok (.iload_n 2, 1) := by decide +kernel
theorem d_159_31 : decode (mC 159) 31 = .ok (.ifCond .ge 5, 3) := by decide +kernel
theorem d_159_36 : decode (mC 159) 36 = .ok (.iload_n 1, 1) := by decide +kernel
theorem d_159_37 : decode (mC 159) 37 = .ok (.iconst 2, 1) := by decide +kernel
theorem d_159_38 : decode (mC 159) 38 = .ok (.if_icmp .ne 13, 3) := by decide +kernel
theorem d_159_51 : decode (mC 159) 51 = .ok (.iload_n 1, 1) := by decide +kernel
theorem d_159_52 : decode (mC 159) 52 = .ok (.iload_n 2, 1) := by decide +kernel
theorem d_159_53 : decode (mC 159) 53 = .ok (.bipush 8, 2) := by decide +kernel
theorem d_159_55 : decode (mC 159) 55 = .ok (.idiv, 1) := by decide +kernel
theorem d_159_56 : decode (mC 159) 56 = .ok (.iload_n 2, 1) := by decide +kernel
theorem d_159_57 : decode (mC 159) 57 = .ok (.bipush 8, 2) := by decide +kernel
theorem d_159_59 : decode (mC 159) 59 = .ok (.irem, 1) := by decide +kernel
theorem d_159_60 : decode (mC 159) 60 = .ok (.invokestatic 132, 3) := by decide +kernel
theorem sk_159_132 : SKc 159 132 84 3 := ⟨⟨List.mem_of_getElem? (i := 808) (by decide +kernel), by decide +kernel⟩, List.mem_of_getElem? (i := 809) (by decide +kernel), mo_84, m0_84⟩
theorem d_159_63 : decode (mC 159) 63 = .ok (.ireturn, 1) := by decide +kernel
theorem d_159_41 : decode (mC 159) 41 = .ok (.aload_n 0, 1) := by decide +kernel
theorem d_159_42 : decode (mC 159) 42 = .ok (.getfield 67, 3) := by decide +kernel
theorem d_159_45 : decode (mC 159) 45 = .ok (.getfield 281, 3) := by decide +kernel
theorem fk_CordLoft_281 : FK 0 "CordLoft" 281 6 6 := ⟨⟨_, rfl, by decide, List.mem_of_getElem? (i := 396) (by decide +kernel)⟩, rfl, by decide⟩
theorem d_159_48 : decode (mC 159) 48 = .ok (.goto 15, 3) := by decide +kernel
theorem d_159_34 : decode (mC 159) 34 = .ok (.iconst (-1), 1) := by decide +kernel
theorem d_159_35 : decode (mC 159) 35 = .ok (.ireturn, 1) := by decide +kernel
theorem d_163_19 : decode (mC 163) 19 = .ok (.iload 4, 2) := by decide +kernel
theorem d_163_21 : decode (mC 163) 21 = .ok (.aload_n 1, 1) := by decide +kernel
theorem d_163_22 : decode (mC 163) 22 = .ok (.getfield 74, 3) := by decide +kernel
theorem cn_163 : (mN 163).cls = "CordLoft$Sets" := by decide +kernel
theorem d_163_25 : decode (mC 163) 25 = .ok (.if_icmp .ge 39, 3) := by decide +kernel
theorem d_163_28 : decode (mC 163) 28 = .ok (.iload_n 2, 1) := by decide +kernel
theorem d_163_29 : decode (mC 163) 29 = .ok (.iload 4, 2) := by decide +kernel
theorem d_163_31 : decode (mC 163) 31 = .ok (.ishr, 1) := by decide +kernel
theorem d_163_32 : decode (mC 163) 32 = .ok (.iconst 1, 1) := by decide +kernel
theorem d_163_33 : decode (mC 163) 33 = .ok (.iand, 1) := by decide +kernel
theorem d_163_34 : decode (mC 163) 34 = .ok (.ifCond .eq 24, 3) := by decide +kernel
theorem d_163_58 : decode (mC 163) 58 = .ok (.iinc 4 1, 3) := by decide +kernel
theorem ml_163 : mL 163 = 5 := by decide +kernel
theorem d_163_61 : decode (mC 163) 61 = .ok (.goto (-42), 3) := by decide +kernel
theorem d_163_37 : decode (mC 163) 37 = .ok (.aload_n 0, 1) := by decide +kernel
theorem d_163_38 : decode (mC 163) 38 = .ok (.getfield 12, 3) := by decide +kernel
theorem d_163_41 : decode (mC 163) 41 = .ok (.aload_n 0, 1) := by decide +kernel
theorem d_163_42 : decode (mC 163) 42 = .ok (.aload_n 1, 1) := by decide +kernel
theorem d_163_43 : decode (mC 163) 43 = .ok (.iload_n 3, 1) := by decide +kernel
theorem d_163_44 : decode (mC 163) 44 = .ok (.iconst 1, 1) := by decide +kernel
theorem d_163_45 : decode (mC 163) 45 = .ok (.iload 4, 2) := by decide +kernel
theorem d_163_47 : decode (mC 163) 47 = .ok (.ishl, 1) := by decide +kernel
theorem d_163_48 : decode (mC 163) 48 = .ok (.ior, 1) := by decide +kernel
theorem d_163_49 : decode (mC 163) 49 = .ok (.invokevirtual 86, 3) := by decide +kernel
theorem vk_163_86 : VK 163 86 130 2 6 := ⟨⟨List.mem_of_getElem? (i := 1119) (by decide +kernel), by decide +kernel⟩, List.mem_of_getElem? (i := 998) (by decide +kernel), mo_130, m0_130, _, rfl, List.mem_of_getElem? (i := 999) (by decide +kernel), by decide⟩
theorem d_163_52 : decode (mC 163) 52 = .ok (.ineg, 1) := by decide +kernel
theorem d_163_53 : decode (mC 163) 53 = .ok (.iload 4, 2) := by decide +kernel
theorem d_163_55 : decode (mC 163) 55 = .ok (.invokevirtual 58, 3) := by decide +kernel
theorem vk_163_58 : VK 163 58 121 2 1 := ⟨⟨List.mem_of_getElem? (i := 959) (by decide +kernel), by decide +kernel⟩, List.mem_of_getElem? (i := 960) (by decide +kernel), mo_121, m0_121, _, rfl, List.mem_of_getElem? (i := 961) (by decide +kernel), by decide⟩
theorem d_163_0 : decode (mC 163) 0 = .ok (.aload_n 1, 1) := by decide +kernel
theorem d_163_1 : decode (mC 163) 1 = .ok (.invokevirtual 33, 3) := by decide +kernel
theorem vk_163_33 : VK 163 33 117 0 4 := ⟨⟨List.mem_of_getElem? (i := 942) (by decide +kernel), by decide +kernel⟩, List.mem_of_getElem? (i := 943) (by decide +kernel), mo_117, m0_117, _, rfl, List.mem_of_getElem? (i := 944) (by decide +kernel), by decide⟩
theorem d_163_4 : decode (mC 163) 4 = .ok (.iload_n 2, 1) := by decide +kernel
theorem d_163_5 : decode (mC 163) 5 = .ok (.iconst (-1), 1) := by decide +kernel
theorem d_163_6 : decode (mC 163) 6 = .ok (.ixor, 1) := by decide +kernel
theorem d_163_7 : decode (mC 163) 7 = .ok (.iand, 1) := by decide +kernel
theorem d_163_8 : decode (mC 163) 8 = .ok (.istore_n 3, 1) := by decide +kernel
theorem d_163_9 : decode (mC 163) 9 = .ok (.aload_n 0, 1) := by decide +kernel
theorem d_163_10 : decode (mC 163) 10 = .ok (.getfield 12, 3) := by decide +kernel
theorem d_163_13 : decode (mC 163) 13 = .ok (.invokevirtual 49, 3) := by decide +kernel
theorem vk_163_49 : VK 163 49 120 0 1 := ⟨⟨List.mem_of_getElem? (i := 954) (by decide +kernel), by decide +kernel⟩, List.mem_of_getElem? (i := 955) (by decide +kernel), mo_120, m0_120, _, rfl, List.mem_of_getElem? (i := 956) (by decide +kernel), by decide⟩
theorem d_163_16 : decode (mC 163) 16 = .ok (.iconst 0, 1) := by decide +kernel
theorem d_163_17 : decode (mC 163) 17 = .ok (.istore 4, 2) := by decide +kernel
theorem d_163_64 : decode (mC 163) 64 = .ok (.aload_n 0, 1) := by decide +kernel
theorem d_163_65 : decode (mC 163) 65 = .ok (.getfield 12, 3) := by decide +kernel
theorem d_163_68 : decode (mC 163) 68 = .ok (.getfield 62, 3) := by decide +kernel
theorem d_163_71 : decode (mC 163) 71 = .ok (.ireturn, 1) := by decide +kernel
theorem mr_163 : mR 163 = some .int := by decide +kernel
theorem d_162_0 : decode (mC 162) 0 = .ok (.aload_n 0, 1) := by decide +kernel
theorem d_162_1 : decode (mC 162) 1 = .ok (.getfield 67, 3) := by decide +kernel
theorem cn_162 : (mN 162).cls = "CordLoft" := by decide +kernel
theorem d_162_4 : decode (mC 162) 4 = .ok (.aload_n 0, 1) := by decide +kernel
theorem d_162_5 : decode (mC 162) 5 = .ok (.getfield 35, 3) := by decide +kernel
theorem d_162_8 : decode (mC 162) 8 = .ok (.aload_n 0, 1) := by decide +kernel
theorem d_162_9 : decode (mC 162) 9 = .ok (.getfield 45, 3) := by decide +kernel
theorem d_162_12 : decode (mC 162) 12 = .ok (.invokevirtual 114, 3) := by decide +kernel
theorem vk_162_114 : VK 162 114 78 0 0 := ⟨⟨List.mem_of_getElem? (i := 784) (by decide +kernel), by decide +kernel⟩, List.mem_of_getElem? (i := 785) (by decide +kernel), mo_78, m0_78, _, rfl, List.mem_of_getElem? (i := 786) (by decide +kernel), by decide⟩
theorem d_162_15 : decode (mC 162) 15 = .ok (.getfield 161, 3) := by decide +kernel
theorem d_162_18 : decode (mC 162) 18 = .ok (.invokevirtual 284, 3) := by decide +kernel
theorem mo_163 : MOK 163 := ⟨List.mem_of_getElem? (i := 1141) (by decide +kernel), by decide +kernel, ⟨by decide +kernel, by decide +kernel⟩, List.mem_of_getElem? (i := 96) (by decide +kernel), by decide +kernel⟩
theorem m0_163 : M0K 163 := ⟨by decide +kernel, by decide +kernel⟩
theorem vk_162_284 : VK 162 284 163 2 6 := ⟨⟨List.mem_of_getElem? (i := 1138) (by decide +kernel), by decide +kernel⟩, List.mem_of_getElem? (i := 1139) (by decide +kernel), mo_163, m0_163, _, rfl, List.mem_of_getElem? (i := 1140) (by decide +kernel), by decide⟩
theorem d_162_21 : decode (mC 162) 21 = .ok (.ireturn, 1) := by decide +kernel
theorem mr_162 : mR 162 = some .int := by decide +kernel
theorem ml_162 : mL 162 = 1 := by decide +kernel
theorem d_165_9 : decode (mC 165) 9 = .ok (.iload_n 3, 1) := by decide +kernel
theorem d_165_10 : decode (mC 165) 10 = .ok (.aload_n 1, 1) := by decide +kernel
theorem d_165_11 : decode (mC 165) 11 = .ok (.getfield 74, 3) := by decide +kernel
theorem cn_165 : (mN 165).cls = "CordLoft$Sets" := by decide +kernel
theorem d_165_14 : decode (mC 165) 14 = .ok (.if_icmp .ge 43, 3) := by decide +kernel
theorem d_165_17 : decode (mC 165) 17 = .ok (.aload_n 2, 1) := by decide +kernel
theorem d_165_18 : decode (mC 165) 18 = .ok (.getfield 37, 3) := by decide +kernel
theorem d_165_21 : decode (mC 165) 21 = .ok (.iload_n 3, 1) := by decide +kernel
theorem d_165_22 : decode (mC 165) 22 = .ok (.ishr, 1) := by decide +kernel
theorem d_165_23 : decode (mC 165) 23 = .ok (.iconst 1, 1) := by decide +kernel
theorem d_165_24 : decode (mC 165) 24 = .ok (.iand, 1) := by decide +kernel
theorem d_165_25 : decode (mC 165) 25 = .ok (.ifCond .ne 26, 3) := by decide +kernel
theorem d_165_51 : decode (mC 165) 51 = .ok (.iinc 3 1, 3) := by decide +kernel
theorem ml_165 : mL 165 = 4 := by decide +kernel
theorem d_165_54 : decode (mC 165) 54 = .ok (.goto (-45), 3) := by decide +kernel
theorem d_165_28 : decode (mC 165) 28 = .ok (.aload_n 0, 1) := by decide +kernel
theorem d_165_29 : decode (mC 165) 29 = .ok (.getfield 12, 3) := by decide +kernel
theorem d_165_32 : decode (mC 165) 32 = .ok (.aload_n 2, 1) := by decide +kernel
theorem d_165_33 : decode (mC 165) 33 = .ok (.getfield 43, 3) := by decide +kernel
theorem d_165_36 : decode (mC 165) 36 = .ok (.aload_n 1, 1) := by decide +kernel
theorem d_165_37 : decode (mC 165) 37 = .ok (.getfield 77, 3) := by decide +kernel
theorem d_165_40 : decode (mC 165) 40 = .ok (.iload_n 3, 1) := by decide +kernel
theorem d_165_41 : decode (mC 165) 41 = .ok (.iaload, 1) := by decide +kernel
theorem d_165_42 : decode (mC 165) 42 = .ok (.ixor, 1) := by decide +kernel
theorem d_165_43 : decode (mC 165) 43 = .ok (.invokestatic 52, 3) := by decide +kernel
theorem sk_165_52 : SKc 165 52 92 1 := ⟨⟨List.mem_of_getElem? (i := 958) (by decide +kernel), by decide +kernel⟩, List.mem_of_getElem? (i := 840) (by decide +kernel), mo_92, m0_92⟩
theorem d_165_46 : decode (mC 165) 46 = .ok (.ineg, 1) := by decide +kernel
theorem d_165_47 : decode (mC 165) 47 = .ok (.iload_n 3, 1) := by decide +kernel
theorem d_165_48 : decode (mC 165) 48 = .ok (.invokevirtual 58, 3) := by decide +kernel
theorem vk_165_58 : VK 165 58 121 2 1 := ⟨⟨List.mem_of_getElem? (i := 959) (by decide +kernel), by decide +kernel⟩, List.mem_of_getElem? (i := 960) (by decide +kernel), mo_121, m0_121, _, rfl, List.mem_of_getElem? (i := 961) (by decide +kernel), by decide⟩
theorem d_165_0 : decode (mC 165) 0 = .ok (.aload_n 0, 1) := by decide +kernel
theorem d_165_1 : decode (mC 165) 1 = .ok (.getfield 12, 3) := by decide +kernel
theorem d_165_4 : decode (mC 165) 4 = .ok (.invokevirtual 49, 3) := by decide +kernel
theorem vk_165_49 : VK 165 49 120 0 1 := ⟨⟨List.mem_of_getElem? (i := 954) (by decide +kernel), by decide +kernel⟩, List.mem_of_getElem? (i := 955) (by decide +kernel), mo_120, m0_120, _, rfl, List.mem_of_getElem? (i := 956) (by decide +kernel), by decide⟩
theorem d_165_7 : decode (mC 165) 7 = .ok (.iconst 0, 1) := by decide +kernel
theorem d_165_8 : decode (mC 165) 8 = .ok (.istore_n 3, 1) := by decide +kernel
theorem d_165_57 : decode (mC 165) 57 = .ok (.aload_n 0, 1) := by decide +kernel
theorem d_165_58 : decode (mC 165) 58 = .ok (.getfield 12, 3) := by decide +kernel
theorem d_165_61 : decode (mC 165) 61 = .ok (.getfield 62, 3) := by decide +kernel
theorem d_165_64 : decode (mC 165) 64 = .ok (.ireturn, 1) := by decide +kernel
theorem mr_165 : mR 165 = some .int := by decide +kernel
theorem d_164_0 : decode (mC 164) 0 = .ok (.aload_n 0, 1) := by decide +kernel
theorem d_164_1 : decode (mC 164) 1 = .ok (.getfield 45, 3) := by decide +kernel
theorem cn_164 : (mN 164).cls = "CordLoft" := by decide +kernel
theorem d_164_4 : decode (mC 164) 4 = .ok (.invokevirtual 114, 3) := by decide +kernel
theorem vk_164_114 : VK 164 114 78 0 0 := ⟨⟨List.mem_of_getElem? (i := 784) (by decide +kernel), by decide +kernel⟩, List.mem_of_getElem? (i := 785) (by decide +kernel), mo_78, m0_78, _, rfl, List.mem_of_getElem? (i := 786) (by decide +kernel), by decide⟩
theorem d_164_7 : decode (mC 164) 7 = .ok (.astore_n 2, 1) := by decide +kernel
theorem ml_164 : mL 164 = 4 := by decide +kernel
theorem d_164_8 : decode (mC 164) 8 = .ok (.aload_n 0, 1) := by decide +kernel
theorem d_164_9 : decode (mC 164) 9 = .ok (.getfield 67, 3) := by decide +kernel
theorem d_164_12 : decode (mC 164) 12 = .ok (.aload_n 0, 1) := by decide +kernel
theorem d_164_13 : decode (mC 164) 13 = .ok (.getfield 35, 3) := by decide +kernel
theorem d_164_16 : decode (mC 164) 16 = .ok (.aload_n 2, 1) := by decide +kernel
theorem d_164_17 : decode (mC 164) 17 = .ok (.invokevirtual 287, 3) := by decide +kernel
theorem mo_165 : MOK 165 := ⟨List.mem_of_getElem? (i := 1149) (by decide +kernel), by decide +kernel, ⟨by decide +kernel, by decide +kernel⟩, List.mem_of_getElem? (i := 96) (by decide +kernel), by decide +kernel⟩
theorem m0_165 : M0K 165 := ⟨by decide +kernel, by decide +kernel⟩
theorem vk_164_287 : VK 164 287 165 2 6 := ⟨⟨List.mem_of_getElem? (i := 1146) (by decide +kernel), by decide +kernel⟩, List.mem_of_getElem? (i := 1147) (by decide +kernel), mo_165, m0_165, _, rfl, List.mem_of_getElem? (i := 1148) (by decide +kernel), by decide⟩
theorem d_164_20 : decode (mC 164) 20 = .ok (.istore_n 3, 1) := by decide +kernel
theorem d_164_21 : decode (mC 164) 21 = .ok (.iload_n 3, 1) := by decide +kernel
theorem d_164_22 : decode (mC 164) 22 = .ok (.ifCond .ge 7, 3) := by decide +kernel
theorem d_164_29 : decode (mC 164) 29 = .ok (.iload_n 1, 1) := by decide +kernel
theorem d_164_30 : decode (mC 164) 30 = .ok (.iload_n 3, 1) := by decide +kernel
theorem d_164_31 : decode (mC 164) 31 = .ok (.aload_n 2, 1) := by decide +kernel
theorem d_164_32 : decode (mC 164) 32 = .ok (.getfield 140, 3) := by decide +kernel
theorem d_164_35 : decode (mC 164) 35 = .ok (.aload_n 0, 1) := by decide +kernel
theorem d_164_36 : decode (mC 164) 36 = .ok (.getfield 35, 3) := by decide +kernel
theorem d_164_39 : decode (mC 164) 39 = .ok (.getfield 155, 3) := by decide +kernel
theorem d_164_42 : decode (mC 164) 42 = .ok (.iload_n 3, 1) := by decide +kernel
theorem d_164_43 : decode (mC 164) 43 = .ok (.iaload, 1) := by decide +kernel
theorem d_164_44 : decode (mC 164) 44 = .ok (.ixor, 1) := by decide +kernel
theorem d_164_45 : decode (mC 164) 45 = .ok (.invokestatic 167, 3) := by decide +kernel
theorem sk_164_167 : SKc 164 167 92 1 := ⟨⟨List.mem_of_getElem? (i := 839) (by decide +kernel), by decide +kernel⟩, List.mem_of_getElem? (i := 840) (by decide +kernel), mo_92, m0_92⟩
theorem d_164_48 : decode (mC 164) 48 = .ok (.invokestatic 132, 3) := by decide +kernel
theorem sk_164_132 : SKc 164 132 84 3 := ⟨⟨List.mem_of_getElem? (i := 808) (by decide +kernel), by decide +kernel⟩, List.mem_of_getElem? (i := 809) (by decide +kernel), mo_84, m0_84⟩
theorem d_164_51 : decode (mC 164) 51 = .ok (.ireturn, 1) := by decide +kernel
theorem mr_164 : mR 164 = some .int := by decide +kernel
theorem d_164_25 : decode (mC 164) 25 = .ok (.iconst (-1), 1) := by decide +kernel
theorem d_164_26 : decode (mC 164) 26 = .ok (.goto 25, 3) := by decide +kernel
theorem d_167_9 : decode (mC 167) 9 = .ok (.iload_n 3, 1) := by decide +kernel
theorem d_167_10 : decode (mC 167) 10 = .ok (.aload_n 1, 1) := by decide +kernel
theorem d_167_11 : decode (mC 167) 11 = .ok (.getfield 74, 3) := by decide +kernel
theorem cn_167 : (mN 167).cls = "CordLoft$Sets" := by decide +kernel
theorem d_167_14 : decode (mC 167) 14 = .ok (.if_icmp .ge 32, 3) := by decide +kernel
theorem d_167_17 : decode (mC 167) 17 = .ok (.iload_n 2, 1) := by decide +kernel
theorem d_167_18 : decode (mC 167) 18 = .ok (.iload_n 3, 1) := by decide +kernel
theorem d_167_19 : decode (mC 167) 19 = .ok (.ishr, 1) := by decide +kernel
theorem d_167_20 : decode (mC 167) 20 = .ok (.iconst 1, 1) := by decide +kernel
theorem d_167_21 : decode (mC 167) 21 = .ok (.iand, 1) := by decide +kernel
theorem d_167_22 : decode (mC 167) 22 = .ok (.ifCond .eq 18, 3) := by decide +kernel
theorem d_167_40 : decode (mC 167) 40 = .ok (.iinc 3 1, 3) := by decide +kernel
theorem ml_167 : mL 167 = 4 := by decide +kernel
theorem d_167_43 : decode (mC 167) 43 = .ok (.goto (-34), 3) := by decide +kernel
theorem d_167_25 : decode (mC 167) 25 = .ok (.aload_n 0, 1) := by decide +kernel
theorem d_167_26 : decode (mC 167) 26 = .ok (.getfield 12, 3) := by decide +kernel
theorem d_167_29 : decode (mC 167) 29 = .ok (.aload_n 1, 1) := by decide +kernel
theorem d_167_30 : decode (mC 167) 30 = .ok (.getfield 114, 3) := by decide +kernel
theorem d_167_33 : decode (mC 167) 33 = .ok (.iload_n 3, 1) := by decide +kernel
theorem d_167_34 : decode (mC 167) 34 = .ok (.iaload, 1) := by decide +kernel
theorem d_167_35 : decode (mC 167) 35 = .ok (.ineg, 1) := by decide +kernel
theorem d_167_36 : decode (mC 167) 36 = .ok (.iload_n 3, 1) := by decide +kernel
theorem d_167_37 : decode (mC 167) 37 = .ok (.invokevirtual 58, 3) := by decide +kernel
theorem vk_167_58 : VK 167 58 121 2 1 := ⟨⟨List.mem_of_getElem? (i := 959) (by decide +kernel), by decide +kernel⟩, List.mem_of_getElem? (i := 960) (by decide +kernel), mo_121, m0_121, _, rfl, List.mem_of_getElem? (i := 961) (by decide +kernel), by decide⟩
theorem d_167_0 : decode (mC 167) 0 = .ok (.aload_n 0, 1) := by decide +kernel
theorem d_167_1 : decode (mC 167) 1 = .ok (.getfield 12, 3) := by decide +kernel
theorem d_167_4 : decode (mC 167) 4 = .ok (.invokevirtual 49, 3) := by decide +kernel
theorem vk_167_49 : VK 167 49 120 0 1 := ⟨⟨List.mem_of_getElem? (i := 954) (by decide +kernel), by decide +kernel⟩, List.mem_of_getElem? (i := 955) (by decide +kernel), mo_120, m0_120, _, rfl, List.mem_of_getElem? (i := 956) (by decide +kernel), by decide⟩
theorem d_167_7 : decode (mC 167) 7 = .ok (.iconst 0, 1) := by decide +kernel
theorem d_167_8 : decode (mC 167) 8 = .ok (.istore_n 3, 1) := by decide +kernel
theorem d_167_46 : decode (mC 167) 46 = .ok (.aload_n 0, 1) := by decide +kernel
theorem d_167_47 : decode (mC 167) 47 = .ok (.getfield 12, 3) := by decide +kernel
theorem d_167_50 : decode (mC 167) 50 = .ok (.getfield 62, 3) := by decide +kernel
theorem d_167_53 : decode (mC 167) 53 = .ok (.ireturn, 1) := by decide +kernel
theorem mr_167 : mR 167 = some .int := by decide +kernel
theorem d_166_0 : decode (mC 166) 0 = .ok (.aload_n 0, 1) := by decide +kernel
theorem d_166_1 : decode (mC 166) 1 = .ok (.getfield 67, 3) := by decide +kernel
theorem cn_166 : (mN 166).cls = "CordLoft" := by decide +kernel
theorem d_166_4 : decode (mC 166) 4 = .ok (.aload_n 0, 1) := by decide +kernel
theorem d_166_5 : decode (mC 166) 5 = .ok (.getfield 35, 3) := by decide +kernel
theorem d_166_8 : decode (mC 166) 8 = .ok (.aload_n 0, 1) := by decide +kernel
theorem d_166_9 : decode (mC 166) 9 = .ok (.invokevirtual 223, 3) := by decide +kernel
theorem vk_166_223 : VK 166 223 129 0 11 := ⟨⟨List.mem_of_getElem? (i := 992) (by decide +kernel), by decide +kernel⟩, List.mem_of_getElem? (i := 994) (by decide +kernel), mo_129, m0_129, _, rfl, List.mem_of_getElem? (i := 22) (by decide +kernel), by decide⟩
theorem d_166_12 : decode (mC 166) 12 = .ok (.invokevirtual 290, 3) := by decide +kernel
theorem mo_167 : MOK 167 := ⟨List.mem_of_getElem? (i := 1157) (by decide +kernel), by decide +kernel, ⟨by decide +kernel, by decide +kernel⟩, List.mem_of_getElem? (i := 96) (by decide +kernel), by decide +kernel⟩
theorem m0_167 : M0K 167 := ⟨by decide +kernel, by decide +kernel⟩
theorem vk_166_290 : VK 166 290 167 2 6 := ⟨⟨List.mem_of_getElem? (i := 1154) (by decide +kernel), by decide +kernel⟩, List.mem_of_getElem? (i := 1155) (by decide +kernel), mo_167, m0_167, _, rfl, List.mem_of_getElem? (i := 1156) (by decide +kernel), by decide⟩
theorem d_166_15 : decode (mC 166) 15 = .ok (.ireturn, 1) := by decide +kernel
theorem mr_166 : mR 166 = some .int := by decide +kernel
theorem ml_166 : mL 166 = 1 := by decide +kernel
theorem d_168_9 : decode (mC 168) 9 = .ok (.iload_n 3, 1) := by decide +kernel
theorem d_168_10 : decode (mC 168) 10 = .ok (.aload_n 0, 1) := by decide +kernel
theorem d_168_11 : decode (mC 168) 11 = .ok (.getfield 35, 3) := by decide +kernel
theorem cn_168 : (mN 168).cls = "CordLoft" := by decide +kernel
theorem d_168_14 : decode (mC 168) 14 = .ok (.getfield 231, 3) := by decide +kernel
theorem d_168_17 : decode (mC 168) 17 = .ok (.if_icmp .ge 41, 3) := by decide +kernel
theorem d_168_20 : decode (mC 168) 20 = .ok (.iload_n 1, 1) := by decide +kernel
theorem d_168_21 : decode (mC 168) 21 = .ok (.iload_n 3, 1) := by decide +kernel
theorem d_168_22 : decode (mC 168) 22 = .ok (.ishr, 1) := by decide +kernel
theorem d_168_23 : decode (mC 168) 23 = .ok (.iconst 1, 1) := by decide +kernel
theorem d_168_24 : decode (mC 168) 24 = .ok (.iand, 1) := by decide +kernel
theorem d_168_25 : decode (mC 168) 25 = .ok (.ifCond .eq 27, 3) := by decide +kernel
theorem d_168_52 : decode (mC 168) 52 = .ok (.iinc 3 1, 3) := by decide +kernel
theorem ml_168 : mL 168 = 4 := by decide +kernel
theorem d_168_55 : decode (mC 168) 55 = .ok (.goto (-46), 3) := by decide +kernel
theorem d_168_28 : decode (mC 168) 28 = .ok (.aload_n 0, 1) := by decide +kernel
theorem d_168_29 : decode (mC 168) 29 = .ok (.getfield 35, 3) := by decide +kernel
theorem d_168_32 : decode (mC 168) 32 = .ok (.getfield 155, 3) := by decide +kernel
theorem d_168_35 : decode (mC 168) 35 = .ok (.iload_n 3, 1) := by decide +kernel
theorem d_168_36 : decode (mC 168) 36 = .ok (.iaload, 1) := by decide +kernel
theorem d_168_37 : decode (mC 168) 37 = .ok (.invokestatic 167, 3) := by decide +kernel
theorem sk_168_167 : SKc 168 167 92 1 := ⟨⟨List.mem_of_getElem? (i := 839) (by decide +kernel), by decide +kernel⟩, List.mem_of_getElem? (i := 840) (by decide +kernel), mo_92, m0_92⟩
theorem d_168_40 : decode (mC 168) 40 = .ok (.iconst 2, 1) := by decide +kernel
theorem d_168_41 : decode (mC 168) 41 = .ok (.irem, 1) := by decide +kernel
theorem d_168_42 : decode (mC 168) 42 = .ok (.iconst 1, 1) := by decide +kernel
theorem d_168_43 : decode (mC 168) 43 = .ok (.if_icmp .ne 9, 3) := by decide +kernel
theorem d_168_46 : decode (mC 168) 46 = .ok (.iload_n 2, 1) := by decide +kernel
theorem d_168_47 : decode (mC 168) 47 = .ok (.iconst 1, 1) := by decide +kernel
theorem d_168_48 : decode (mC 168) 48 = .ok (.iload_n 3, 1) := by decide +kernel
theorem d_168_49 : decode (mC 168) 49 = .ok (.ishl, 1) := by decide +kernel
theorem d_168_50 : decode (mC 168) 50 = .ok (.ior, 1) := by decide +kernel
theorem d_168_51 : decode (mC 168) 51 = .ok (.istore_n 2, 1) := by decide +kernel
theorem d_168_0 : decode (mC 168) 0 = .ok (.aload_n 0, 1) := by decide +kernel
theorem d_168_1 : decode (mC 168) 1 = .ok (.invokevirtual 223, 3) := by decide +kernel
theorem vk_168_223 : VK 168 223 129 0 11 := ⟨⟨List.mem_of_getElem? (i := 992) (by decide +kernel), by decide +kernel⟩, List.mem_of_getElem? (i := 994) (by decide +kernel), mo_129, m0_129, _, rfl, List.mem_of_getElem? (i := 22) (by decide +kernel), by decide⟩
theorem d_168_4 : decode (mC 168) 4 = .ok (.istore_n 1, 1) := by decide +kernel
theorem d_168_5 : decode (mC 168) 5 = .ok (.iconst 0, 1) := by decide +kernel
theorem d_168_6 : decode (mC 168) 6 = .ok (.istore_n 2, 1) := by decide +kernel
theorem d_168_7 : decode (mC 168) 7 = .ok (.iconst 0, 1) := by decide +kernel
theorem d_168_8 : decode (mC 168) 8 = .ok (.istore_n 3, 1) := by decide +kernel
theorem d_168_58 : decode (mC 168) 58 = .ok (.iload_n 2, 1) := by decide +kernel
theorem d_168_59 : decode (mC 168) 59 = .ok (.ireturn, 1) := by decide +kernel
theorem mr_168 : mR 168 = some .int := by decide +kernel
theorem d_170_10 : decode (mC 170) 10 = .ok (.iload 4, 2) := by decide +kernel
theorem d_170_12 : decode (mC 170) 12 = .ok (.aload_n 0, 1) := by decide +kernel
theorem d_170_13 : decode (mC 170) 13 = .ok (.getfield 35, 3) := by decide +kernel
theorem cn_170 : (mN 170).cls = "CordLoft" := by decide +kernel
theorem d_170_16 : decode (mC 170) 16 = .ok (.getfield 129, 3) := by decide +kernel
theorem d_170_19 : decode (mC 170) 19 = .ok (.if_icmp .ge 32, 3) := by decide +kernel
theorem d_170_22 : decode (mC 170) 22 = .ok (.aload_n 0, 1) := by decide +kernel
theorem d_170_23 : decode (mC 170) 23 = .ok (.getfield 35, 3) := by decide +kernel
theorem d_170_26 : decode (mC 170) 26 = .ok (.getfield 146, 3) := by decide +kernel
theorem d_170_29 : decode (mC 170) 29 = .ok (.iload 4, 2) := by decide +kernel
theorem d_170_31 : decode (mC 170) 31 = .ok (.iaload, 1) := by decide +kernel
theorem d_170_32 : decode (mC 170) 32 = .ok (.iload_n 2, 1) := by decide +kernel
theorem d_170_33 : decode (mC 170) 33 = .ok (.iand, 1) := by decide +kernel
theorem d_170_34 : decode (mC 170) 34 = .ok (.iload_n 1, 1) := by decide +kernel
theorem d_170_35 : decode (mC 170) 35 = .ok (.if_icmp .ne 10, 3) := by decide +kernel
theorem d_170_45 : decode (mC 170) 45 = .ok (.iinc 4 1, 3) := by decide +kernel
theorem ml_170 : mL 170 = 5 := by decide +kernel
theorem d_170_48 : decode (mC 170) 48 = .ok (.goto (-38), 3) := by decide +kernel
theorem d_170_38 : decode (mC 170) 38 = .ok (.iload_n 3, 1) := by decide +kernel
theorem d_170_39 : decode (mC 170) 39 = .ok (.iconst 1, 1) := by decide +kernel
theorem d_170_40 : decode (mC 170) 40 = .ok (.iload 4, 2) := by decide +kernel
theorem d_170_42 : decode (mC 170) 42 = .ok (.ishl, 1) := by decide +kernel
theorem d_170_43 : decode (mC 170) 43 = .ok (.ior, 1) := by decide +kernel
theorem d_170_44 : decode (mC 170) 44 = .ok (.istore_n 3, 1) := by decide +kernel
theorem d_170_0 : decode (mC 170) 0 = .ok (.aload_n 0, 1) := by decide +kernel
theorem d_170_1 : decode (mC 170) 1 = .ok (.invokevirtual 223, 3) := by decide +kernel
theorem vk_170_223 : VK 170 223 129 0 11 := ⟨⟨List.mem_of_getElem? (i := 992) (by decide +kernel), by decide +kernel⟩, List.mem_of_getElem? (i := 994) (by decide +kernel), mo_129, m0_129, _, rfl, List.mem_of_getElem? (i := 22) (by decide +kernel), by decide⟩
theorem d_170_4 : decode (mC 170) 4 = .ok (.istore_n 2, 1) := by decide +kernel
theorem d_170_5 : decode (mC 170) 5 = .ok (.iconst 0, 1) := by decide +kernel
theorem d_170_6 : decode (mC 170) 6 = .ok (.istore_n 3, 1) := by decide +kernel
theorem d_170_7 : decode (mC 170) 7 = .ok (.iconst 0, 1) := by decide +kernel
theorem d_170_8 : decode (mC 170) 8 = .ok (.istore 4, 2) := by decide +kernel
theorem d_170_51 : decode (mC 170) 51 = .ok (.iload_n 3, 1) := by decide +kernel
theorem d_170_52 : decode (mC 170) 52 = .ok (.ireturn, 1) := by decide +kernel
theorem mr_170 : mR 170 = some .int := by decide +kernel
theorem d_169_0 : decode (mC 169) 0 = .ok (.aload_n 0, 1) := by decide +kernel
theorem d_169_1 : decode (mC 169) 1 = .ok (.getfield 35, 3) := by decide +kernel
theorem cn_169 : (mN 169).cls = "CordLoft" := by decide +kernel
theorem d_169_4 : decode (mC 169) 4 = .ok (.iload_n 1, 1) := by decide +kernel
theorem d_169_5 : decode (mC 169) 5 = .ok (.invokevirtual 136, 3) := by decide +kernel
theorem vk_169_136 : VK 169 136 86 1 4 := ⟨⟨List.mem_of_getElem? (i := 815) (by decide +kernel), by decide +kernel⟩, List.mem_of_getElem? (i := 816) (by decide +kernel), mo_86, m0_86, _, rfl, List.mem_of_getElem? (i := 817) (by decide +kernel), by decide⟩
theorem d_169_8 : decode (mC 169) 8 = .ok (.ifCond .ne 5, 3) := by decide +kernel
theorem d_169_13 : decode (mC 169) 13 = .ok (.aload_n 0, 1) := by decide +kernel
theorem d_169_14 : decode (mC 169) 14 = .ok (.aload_n 0, 1) := by decide +kernel
theorem d_169_15 : decode (mC 169) 15 = .ok (.getfield 35, 3) := by decide +kernel
theorem d_169_18 : decode (mC 169) 18 = .ok (.getfield 146, 3) := by decide +kernel
theorem d_169_21 : decode (mC 169) 21 = .ok (.iload_n 1, 1) := by decide +kernel
theorem d_169_22 : decode (mC 169) 22 = .ok (.iaload, 1) := by decide +kernel
theorem d_169_23 : decode (mC 169) 23 = .ok (.aload_n 0, 1) := by decide +kernel
theorem d_169_24 : decode (mC 169) 24 = .ok (.invokevirtual 223, 3) := by decide +kernel
theorem vk_169_223 : VK 169 223 129 0 11 := ⟨⟨List.mem_of_getElem? (i := 992) (by decide +kernel), by decide +kernel⟩, List.mem_of_getElem? (i := 994) (by decide +kernel), mo_129, m0_129, _, rfl, List.mem_of_getElem? (i := 22) (by decide +kernel), by decide⟩
theorem d_169_27 : decode (mC 169) 27 = .ok (.iand, 1) := by decide +kernel
theorem d_169_28 : decode (mC 169) 28 = .ok (.invokevirtual 293, 3) := by decide +kernel
theorem mo_170 : MOK 170 := ⟨List.mem_of_getElem? (i := 1169) (by decide +kernel), by decide +kernel, ⟨by decide +kernel, by decide +kernel⟩, List.mem_of_getElem? (i := 88) (by decide +kernel), by decide +kernel⟩
theorem m0_170 : M0K 170 := ⟨by decide +kernel, by decide +kernel⟩
theorem vk_169_293 : VK 169 293 170 1 11 := ⟨⟨List.mem_of_getElem? (i := 1166) (by decide +kernel), by decide +kernel⟩, List.mem_of_getElem? (i := 1168) (by decide +kernel), mo_170, m0_170, _, rfl, List.mem_of_getElem? (i := 27) (by decide +kernel), by decide⟩
theorem d_169_31 : decode (mC 169) 31 = .ok (.iconst 1, 1) := by decide +kernel
theorem d_169_32 : decode (mC 169) 32 = .ok (.iload_n 1, 1) := by decide +kernel
theorem d_169_33 : decode (mC 169) 33 = .ok (.ishl, 1) := by decide +kernel
theorem d_169_34 : decode (mC 169) 34 = .ok (.iconst (-1), 1) := by decide +kernel
theorem d_169_35 : decode (mC 169) 35 = .ok (.ixor, 1) := by decide +kernel
theorem d_169_36 : decode (mC 169) 36 = .ok (.iand, 1) := by decide +kernel
theorem d_169_37 : decode (mC 169) 37 = .ok (.ireturn, 1) := by decide +kernel
theorem mr_169 : mR 169 = some .int := by decide +kernel
theorem d_169_11 : decode (mC 169) 11 = .ok (.iconst (-1), 1) := by decide +kernel
theorem d_169_12 : decode (mC 169) 12 = .ok (.ireturn, 1) := by decide +kernel
theorem ml_169 : mL 169 = 2 := by decide +kernel
theorem d_171_0 : decode (mC 171) 0 = .ok (.aload_n 0, 1) := by decide +kernel
theorem d_171_1 : decode (mC 171) 1 = .ok (.iconst 0, 1) := by decide +kernel
theorem d_171_2 : decode (mC 171) 2 = .ok (.invokevirtual 293, 3) := by decide +kernel
theorem vk_171_293 : VK 171 293 170 1 11 := ⟨⟨List.mem_of_getElem? (i := 1166) (by decide +kernel), by decide +kernel⟩, List.mem_of_getElem? (i := 1168) (by decide +kernel), mo_170, m0_170, _, rfl, List.mem_of_getElem? (i := 27) (by decide +kernel), by decide⟩
theorem d_171_5 : decode (mC 171) 5 = .ok (.ireturn, 1) := by decide +kernel
theorem mr_171 : mR 171 = some .int := by decide +kernel
theorem ml_171 : mL 171 = 1 := by decide +kernel
theorem d_172_0 : decode (mC 172) 0 = .ok (.aload_n 0, 1) := by decide +kernel
theorem d_172_1 : decode (mC 172) 1 = .ok (.getfield 45, 3) := by decide +kernel
theorem cn_172 : (mN 172).cls = "CordLoft" := by decide +kernel
theorem d_172_4 : decode (mC 172) 4 = .ok (.invokevirtual 114, 3) := by decide +kernel
theorem vk_172_114 : VK 172 114 78 0 0 := ⟨⟨List.mem_of_getElem? (i := 784) (by decide +kernel), by decide +kernel⟩, List.mem_of_getElem? (i := 785) (by decide +kernel), mo_78, m0_78, _, rfl, List.mem_of_getElem? (i := 786) (by decide +kernel), by decide⟩
theorem d_172_7 : decode (mC 172) 7 = .ok (.getfield 140, 3) := by decide +kernel
theorem d_172_10 : decode (mC 172) 10 = .ok (.invokestatic 167, 3) := by decide +kernel
theorem sk_172_167 : SKc 172 167 92 1 := ⟨⟨List.mem_of_getElem? (i := 839) (by decide +kernel), by decide +kernel⟩, List.mem_of_getElem? (i := 840) (by decide +kernel), mo_92, m0_92⟩
theorem d_172_13 : decode (mC 172) 13 = .ok (.ireturn, 1) := by decide +kernel
theorem mr_172 : mR 172 = some .int := by decide +kernel
theorem ml_172 : mL 172 = 1 := by decide +kernel
theorem d_173_0 : decode (mC 173) 0 = .ok (.aload_n 0, 1) := by decide +kernel
theorem d_173_1 : decode (mC 173) 1 = .ok (.getfield 35, 3) := by decide +kernel
theorem cn_173 : (mN 173).cls = "CordLoft" := by decide +kernel
theorem d_173_4 : decode (mC 173) 4 = .ok (.aload_n 0, 1) := by decide +kernel
theorem d_173_5 : decode (mC 173) 5 = .ok (.getfield 45, 3) := by decide +kernel
theorem d_173_8 : decode (mC 173) 8 = .ok (.invokevirtual 114, 3) := by decide +kernel
theorem vk_173_114 : VK 173 114 78 0 0 := ⟨⟨List.mem_of_getElem? (i := 784) (by decide +kernel), by decide +kernel⟩, List.mem_of_getElem? (i := 785) (by decide +kernel), mo_78, m0_78, _, rfl, List.mem_of_getElem? (i := 786) (by decide +kernel), by decide⟩
theorem d_173_11 : decode (mC 173) 11 = .ok (.getfield 140, 3) := by decide +kernel
theorem d_173_14 : decode (mC 173) 14 = .ok (.invokevirtual 240, 3) := by decide +kernel
theorem vk_173_240 : VK 173 240 138 1 4 := ⟨⟨List.mem_of_getElem? (i := 1033) (by decide +kernel), by decide +kernel⟩, List.mem_of_getElem? (i := 1030) (by decide +kernel), mo_138, m0_138, _, rfl, List.mem_of_getElem? (i := 1031) (by decide +kernel), by decide⟩
theorem d_173_17 : decode (mC 173) 17 = .ok (.ireturn, 1) := by decide +kernel
theorem mr_173 : mR 173 = some .int := by decide +kernel
theorem ml_173 : mL 173 = 1 := by decide +kernel
theorem d_175_9 : decode (mC 175) 9 = .ok (.iload_n 2, 1) := by decide +kernel
theorem d_175_10 : decode (mC 175) 10 = .ok (.aload_n 1, 1) := by decide +kernel
theorem d_175_11 : decode (mC 175) 11 = .ok (.getfield 74, 3) := by decide +kernel
theorem cn_175 : (mN 175).cls = "CordLoft$Sets" := by decide +kernel
theorem d_175_14 : decode (mC 175) 14 = .ok (.if_icmp .ge 27, 3) := by decide +kernel
theorem d_175_17 : decode (mC 175) 17 = .ok (.aload_n 0, 1) := by decide +kernel
theorem d_175_18 : decode (mC 175) 18 = .ok (.getfield 12, 3) := by decide +kernel
theorem d_175_21 : decode (mC 175) 21 = .ok (.aload_n 1, 1) := by decide +kernel
theorem d_175_22 : decode (mC 175) 22 = .ok (.getfield 77, 3) := by decide +kernel
theorem d_175_25 : decode (mC 175) 25 = .ok (.iload_n 2, 1) := by decide +kernel
theorem d_175_26 : decode (mC 175) 26 = .ok (.iaload, 1) := by decide +kernel
theorem d_175_27 : decode (mC 175) 27 = .ok (.invokestatic 52, 3) := by decide +kernel
theorem sk_175_52 : SKc 175 52 92 1 := ⟨⟨List.mem_of_getElem? (i := 958) (by decide +kernel), by decide +kernel⟩, List.mem_of_getElem? (i := 840) (by decide +kernel), mo_92, m0_92⟩
theorem d_175_30 : decode (mC 175) 30 = .ok (.ineg, 1) := by decide +kernel
theorem d_175_31 : decode (mC 175) 31 = .ok (.iload_n 2, 1) := by decide +kernel
theorem d_175_32 : decode (mC 175) 32 = .ok (.invokevirtual 58, 3) := by decide +kernel
theorem vk_175_58 : VK 175 58 121 2 1 := ⟨⟨List.mem_of_getElem? (i := 959) (by decide +kernel), by decide +kernel⟩, List.mem_of_getElem? (i := 960) (by decide +kernel), mo_121, m0_121, _, rfl, List.mem_of_getElem? (i := 961) (by decide +kernel), by decide⟩
theorem d_175_35 : decode (mC 175) 35 = .ok (.iinc 2 1, 3) := by decide +kernel
theorem ml_175 : mL 175 = 3 := by decide +kernel
theorem d_175_38 : decode (mC 175) 38 = .ok (.goto (-29), 3) := by decide +kernel
theorem d_175_0 : decode (mC 175) 0 = .ok (.aload_n 0, 1) := by decide +kernel
theorem d_175_1 : decode (mC 175) 1 = .ok (.getfield 12, 3) := by decide +kernel
theorem d_175_4 : decode (mC 175) 4 = .ok (.invokevirtual 49, 3) := by decide +kernel
theorem vk_175_49 : VK 175 49 120 0 1 := ⟨⟨List.mem_of_getElem? (i := 954) (by decide +kernel), by decide +kernel⟩, List.mem_of_getElem? (i := 955) (by decide +kernel), mo_120, m0_120, _, rfl, List.mem_of_getElem? (i := 956) (by decide +kernel), by decide⟩
theorem d_175_7 : decode (mC 175) 7 = .ok (.iconst 0, 1) := by decide +kernel
theorem d_175_8 : decode (mC 175) 8 = .ok (.istore_n 2, 1) := by decide +kernel
theorem d_175_41 : decode (mC 175) 41 = .ok (.aload_n 0, 1) := by decide +kernel
theorem d_175_42 : decode (mC 175) 42 = .ok (.getfield 12, 3) := by decide +kernel
theorem d_175_45 : decode (mC 175) 45 = .ok (.getfield 62, 3) := by decide +kernel
theorem d_175_48 : decode (mC 175) 48 = .ok (.ireturn, 1) := by decide +kernel
theorem mr_175 : mR 175 = some .int := by decide +kernel
theorem d_174_0 : decode (mC 174) 0 = .ok (.aload_n 0, 1) := by decide +kernel
theorem d_174_1 : decode (mC 174) 1 = .ok (.getfield 67, 3) := by decide +kernel
theorem cn_174 : (mN 174).cls = "CordLoft" := by decide +kernel
theorem d_174_4 : decode (mC 174) 4 = .ok (.aload_n 0, 1) := by decide +kernel
theorem d_174_5 : decode (mC 174) 5 = .ok (.getfield 35, 3) := by decide +kernel
theorem d_174_8 : decode (mC 174) 8 = .ok (.invokevirtual 296, 3) := by decide +kernel
theorem mo_175 : MOK 175 := ⟨List.mem_of_getElem? (i := 1189) (by decide +kernel), by decide +kernel, ⟨by decide +kernel, by decide +kernel⟩, List.mem_of_getElem? (i := 96) (by decide +kernel), by decide +kernel⟩
theorem m0_175 : M0K 175 := ⟨by decide +kernel, by decide +kernel⟩
theorem vk_174_296 : VK 174 296 175 1 6 := ⟨⟨List.mem_of_getElem? (i := 1186) (by decide +kernel), by decide +kernel⟩, List.mem_of_getElem? (i := 1187) (by decide +kernel), mo_175, m0_175, _, rfl, List.mem_of_getElem? (i := 1188) (by decide +kernel), by decide⟩
theorem d_174_11 : decode (mC 174) 11 = .ok (.ireturn, 1) := by decide +kernel
theorem mr_174 : mR 174 = some .int := by decide +kernel
theorem ml_174 : mL 174 = 1 := by decide +kernel
theorem d_176_31 : decode (mC 176) 31 = .ok (.iload 4, 2) := by decide +kernel
theorem d_176_33 : decode (mC 176) 33 = .ok (.aload_n 0, 1) := by decide +kernel
theorem d_176_34 : decode (mC 176) 34 = .ok (.getfield 35, 3) := by decide +kernel
theorem cn_176 : (mN 176).cls = "CordLoft" := by decide +kernel
theorem d_176_37 : decode (mC 176) 37 = .ok (.getfield 231, 3) := by decide +kernel
theorem d_176_40 : decode (mC 176) 40 = .ok (.if_icmp .ge 45, 3) := by decide +kernel
theorem d_176_43 : decode (mC 176) 43 = .ok (.iload_n 2, 1) := by decide +kernel
theorem d_176_44 : decode (mC 176) 44 = .ok (.iload 4, 2) := by decide +kernel
theorem d_176_46 : decode (mC 176) 46 = .ok (.ishr, 1) := by decide +kernel
theorem d_176_47 : decode (mC 176) 47 = .ok (.iconst 1, 1) := by decide +kernel
theorem d_176_48 : decode (mC 176) 48 = .ok (.iand, 1) := by decide +kernel
theorem d_176_49 : decode (mC 176) 49 = .ok (.ifCond .eq 30, 3) := by decide +kernel
theorem d_176_79 : decode (mC 176) 79 = .ok (.iinc 4 1, 3) := by decide +kernel
theorem ml_176 : mL 176 = 5 := by decide +kernel
theorem d_176_82 : decode (mC 176) 82 = .ok (.goto (-51), 3) := by decide +kernel
theorem d_176_52 : decode (mC 176) 52 = .ok (.aload_n 0, 1) := by decide +kernel
theorem d_176_53 : decode (mC 176) 53 = .ok (.getfield 35, 3) := by decide +kernel
theorem d_176_56 : decode (mC 176) 56 = .ok (.getfield 158, 3) := by decide +kernel
theorem d_176_59 : decode (mC 176) 59 = .ok (.iload 4, 2) := by decide +kernel
theorem d_176_61 : decode (mC 176) 61 = .ok (.iaload, 1) := by decide +kernel
theorem d_176_62 : decode (mC 176) 62 = .ok (.iload_n 1, 1) := by decide +kernel
theorem d_176_63 : decode (mC 176) 63 = .ok (.if_icmp .gt 16, 3) := by decide +kernel
theorem d_176_66 : decode (mC 176) 66 = .ok (.iload_n 3, 1) := by decide +kernel
theorem d_176_67 : decode (mC 176) 67 = .ok (.aload_n 0, 1) := by decide +kernel
theorem d_176_68 : decode (mC 176) 68 = .ok (.getfield 35, 3) := by decide +kernel
theorem d_176_71 : decode (mC 176) 71 = .ok (.getfield 155, 3) := by decide +kernel
theorem d_176_74 : decode (mC 176) 74 = .ok (.iload 4, 2) := by decide +kernel
theorem d_176_76 : decode (mC 176) 76 = .ok (.iaload, 1) := by decide +kernel
theorem d_176_77 : decode (mC 176) 77 = .ok (.ixor, 1) := by decide +kernel
theorem d_176_78 : decode (mC 176) 78 = .ok (.istore_n 3, 1) := by decide +kernel
theorem d_176_0 : decode (mC 176) 0 = .ok (.iload_n 1, 1) := by decide +kernel
theorem d_176_1 : decode (mC 176) 1 = .ok (.ifCond .lt 9, 3) := by decide +kernel
theorem d_176_10 : decode (mC 176) 10 = .ok (.iconst (-1), 1) := by decide +kernel
theorem d_176_11 : decode (mC 176) 11 = .ok (.ireturn, 1) := by decide +kernel
theorem mr_176 : mR 176 = some .int := by decide +kernel
theorem d_176_4 : decode (mC 176) 4 = .ok (.iload_n 1, 1) := by decide +kernel
theorem d_176_5 : decode (mC 176) 5 = .ok (.bipush 20, 2) := by decide +kernel
theorem d_176_7 : decode (mC 176) 7 = .ok (.if_icmp .le 5, 3) := by decide +kernel
theorem d_176_12 : decode (mC 176) 12 = .ok (.aload_n 0, 1) := by decide +kernel
theorem d_176_13 : decode (mC 176) 13 = .ok (.invokevirtual 223, 3) := by decide +kernel
theorem vk_176_223 : VK 176 223 129 0 11 := ⟨⟨List.mem_of_getElem? (i := 992) (by decide +kernel), by decide +kernel⟩, List.mem_of_getElem? (i := 994) (by decide +kernel), mo_129, m0_129, _, rfl, List.mem_of_getElem? (i := 22) (by decide +kernel), by decide⟩
theorem d_176_16 : decode (mC 176) 16 = .ok (.istore_n 2, 1) := by decide +kernel
theorem d_176_17 : decode (mC 176) 17 = .ok (.aload_n 0, 1) := by decide +kernel
theorem d_176_18 : decode (mC 176) 18 = .ok (.getfield 45, 3) := by decide +kernel
theorem d_176_21 : decode (mC 176) 21 = .ok (.invokevirtual 114, 3) := by decide +kernel
theorem vk_176_114 : VK 176 114 78 0 0 := ⟨⟨List.mem_of_getElem? (i := 784) (by decide +kernel), by decide +kernel⟩, List.mem_of_getElem? (i := 785) (by decide +kernel), mo_78, m0_78, _, rfl, List.mem_of_getElem? (i := 786) (by decide +kernel), by decide⟩
theorem d_176_24 : decode (mC 176) 24 = .ok (.getfield 140, 3) := by decide +kernel
theorem d_176_27 : decode (mC 176) 27 = .ok (.istore_n 3, 1) := by decide +kernel
theorem d_176_28 : decode (mC 176) 28 = .ok (.iconst 0, 1) := by decide +kernel
theorem d_176_29 : decode (mC 176) 29 = .ok (.istore 4, 2) := by decide +kernel
theorem d_176_85 : decode (mC 176) 85 = .ok (.iload_n 3, 1) := by decide +kernel
theorem d_176_86 : decode (mC 176) 86 = .ok (.invokestatic 167, 3) := by decide +kernel
theorem sk_176_167 : SKc 176 167 92 1 := ⟨⟨List.mem_of_getElem? (i := 839) (by decide +kernel), by decide +kernel⟩, List.mem_of_getElem? (i := 840) (by decide +kernel), mo_92, m0_92⟩
theorem d_176_89 : decode (mC 176) 89 = .ok (.ireturn, 1) := by decide +kernel
theorem d_178_7 : decode (mC 178) 7 = .ok (.iload 4, 2) := by decide +kernel
theorem d_178_9 : decode (mC 178) 9 = .ok (.bipush 100, 2) := by decide +kernel
theorem d_178_11 : decode (mC 178) 11 = .ok (.if_icmp .ge 23, 3) := by decide +kernel
theorem d_178_14 : decode (mC 178) 14 = .ok (.iload_n 3, 1) := by decide +kernel
theorem d_178_15 : decode (mC 178) 15 = .ok (.ifCond .eq 19, 3) := by decide +kernel
theorem d_178_18 : decode (mC 178) 18 = .ok (.iload_n 2, 1) := by decide +kernel
theorem d_178_19 : decode (mC 178) 19 = .ok (.iload_n 3, 1) := by decide +kernel
theorem d_178_20 : decode (mC 178) 20 = .ok (.irem, 1) := by decide +kernel
theorem d_178_21 : decode (mC 178) 21 = .ok (.istore 5, 2) := by decide +kernel
theorem ml_178 : mL 178 = 6 := by decide +kernel
theorem d_178_23 : decode (mC 178) 23 = .ok (.iload_n 3, 1) := by decide +kernel
theorem d_178_24 : decode (mC 178) 24 = .ok (.istore_n 2, 1) := by decide +kernel
theorem d_178_25 : decode (mC 178) 25 = .ok (.iload 5, 2) := by decide +kernel
theorem d_178_27 : decode (mC 178) 27 = .ok (.istore_n 3, 1) := by decide +kernel
theorem d_178_28 : decode (mC 178) 28 = .ok (.iinc 4 1, 3) := by decide +kernel
theorem d_178_31 : decode (mC 178) 31 = .ok (.goto (-24), 3) := by decide +kernel
theorem d_178_0 : decode (mC 178) 0 = .ok (.iload_n 0, 1) := by decide +kernel
theorem d_178_1 : decode (mC 178) 1 = .ok (.istore_n 2, 1) := by decide +kernel
theorem d_178_2 : decode (mC 178) 2 = .ok (.iload_n 1, 1) := by decide +kernel
theorem d_178_3 : decode (mC 178) 3 = .ok (.istore_n 3, 1) := by decide +kernel
theorem d_178_4 : decode (mC 178) 4 = .ok (.iconst 0, 1) := by decide +kernel
theorem d_178_5 : decode (mC 178) 5 = .ok (.istore 4, 2) := by decide +kernel
theorem d_178_34 : decode (mC 178) 34 = .ok (.iload_n 2, 1) := by decide +kernel
theorem d_178_35 : decode (mC 178) 35 = .ok (.ireturn, 1) := by decide +kernel
theorem mr_178 : mR 178 = some .int := by decide +kernel
theorem d_177_19 : decode (mC 177) 19 = .ok (.iload 5, 2) := by decide +kernel
theorem d_177_21 : decode (mC 177) 21 = .ok (.iload_n 1, 1) := by decide +kernel
theorem d_177_22 : decode (mC 177) 22 = .ok (.if_icmp .ge 29, 3) := by decide +kernel
theorem d_177_25 : decode (mC 177) 25 = .ok (.iload_n 3, 1) := by decide +kernel
theorem d_177_26 : decode (mC 177) 26 = .ok (.bipush 100, 2) := by decide +kernel
theorem d_177_28 : decode (mC 177) 28 = .ok (.aload_n 0, 1) := by decide +kernel
theorem d_177_29 : decode (mC 177) 29 = .ok (.getfield 35, 3) := by decide +kernel
theorem cn_177 : (mN 177).cls = "CordLoft" := by decide +kernel
theorem d_177_32 : decode (mC 177) 32 = .ok (.getfield 300, 3) := by decide +kernel
theorem fk_CordLoft_300 : FK 0 "CordLoft" 300 4 15 := ⟨⟨_, rfl, by decide, List.mem_of_getElem? (i := 275) (by decide +kernel)⟩, rfl, by decide⟩
theorem d_177_35 : decode (mC 177) 35 = .ok (.isub, 1) := by decide +kernel
theorem d_177_36 : decode (mC 177) 36 = .ok (.imul, 1) := by decide +kernel
theorem d_177_37 : decode (mC 177) 37 = .ok (.istore_n 3, 1) := by decide +kernel
theorem ml_177 : mL 177 = 6 := by decide +kernel
theorem d_177_38 : decode (mC 177) 38 = .ok (.iload 4, 2) := by decide +kernel
theorem d_177_40 : decode (mC 177) 40 = .ok (.bipush 100, 2) := by decide +kernel
theorem d_177_42 : decode (mC 177) 42 = .ok (.imul, 1) := by decide +kernel
theorem d_177_43 : decode (mC 177) 43 = .ok (.istore 4, 2) := by decide +kernel
theorem d_177_45 : decode (mC 177) 45 = .ok (.iinc 5 1, 3) := by decide +kernel
theorem d_177_48 : decode (mC 177) 48 = .ok (.goto (-29), 3) := by decide +kernel
theorem d_177_0 : decode (mC 177) 0 = .ok (.iload_n 1, 1) := by decide +kernel
theorem d_177_1 : decode (mC 177) 1 = .ok (.ifCond .lt 8, 3) := by decide +kernel
theorem d_177_9 : decode (mC 177) 9 = .ok (.iconst (-1), 1) := by decide +kernel
theorem d_177_10 : decode (mC 177) 10 = .ok (.ireturn, 1) := by decide +kernel
theorem mr_177 : mR 177 = some .int := by decide +kernel
theorem d_177_4 : decode (mC 177) 4 = .ok (.iload_n 1, 1) := by decide +kernel
theorem d_177_5 : decode (mC 177) 5 = .ok (.iconst 4, 1) := by decide +kernel
theorem d_177_6 : decode (mC 177) 6 = .ok (.if_icmp .le 5, 3) := by decide +kernel
theorem d_177_11 : decode (mC 177) 11 = .ok (.iconst 1, 1) := by decide +kernel
theorem d_177_12 : decode (mC 177) 12 = .ok (.istore_n 3, 1) := by decide +kernel
theorem d_177_13 : decode (mC 177) 13 = .ok (.iconst 1, 1) := by decide +kernel
theorem d_177_14 : decode (mC 177) 14 = .ok (.istore 4, 2) := by decide +kernel
theorem d_177_16 : decode (mC 177) 16 = .ok (.iconst 0, 1) := by decide +kernel
theorem d_177_17 : decode (mC 177) 17 = .ok (.istore 5, 2) := by decide +kernel
theorem d_177_51 : decode (mC 177) 51 = .ok (.iload_n 3, 1) := by decide +kernel
theorem d_177_52 : decode (mC 177) 52 = .ok (.iload 4, 2) := by decide +kernel
theorem d_177_54 : decode (mC 177) 54 = .ok (.invokestatic 303, 3) := by decide +kernel
theorem mo_178 : MOK 178 := ⟨List.mem_of_getElem? (i := 1200) (by decide +kernel), by decide +kernel, ⟨by decide +kernel, by decide +kernel⟩, List.mem_of_getElem? (i := 88) (by decide +kernel), by decide +kernel⟩
theorem m0_178 : M0K 178 := ⟨by decide +kernel, by decide +kernel⟩
theorem sk_177_303 : SKc 177 303 178 2 := ⟨⟨List.mem_of_getElem? (i := 1198) (by decide +kernel), by decide +kernel⟩, List.mem_of_getElem? (i := 1199) (by decide +kernel), mo_178, m0_178⟩
theorem d_177_57 : decode (mC 177) 57 = .ok (.istore 5, 2) := by decide +kernel
theorem d_177_59 : decode (mC 177) 59 = .ok (.iload 5, 2) := by decide +kernel
theorem d_177_61 : decode (mC 177) 61 = .ok (.iconst 1, 1) := by decide +kernel
theorem d_177_62 : decode (mC 177) 62 = .ok (.if_icmp .ge 7, 3) := by decide +kernel
theorem d_177_69 : decode (mC 177) 69 = .ok (.iload_n 2, 1) := by decide +kernel
theorem d_177_70 : decode (mC 177) 70 = .ok (.iload_n 3, 1) := by decide +kernel
theorem d_177_71 : decode (mC 177) 71 = .ok (.iload 5, 2) := by decide +kernel
theorem d_177_73 : decode (mC 177) 73 = .ok (.idiv, 1) := by decide +kernel
theorem d_177_74 : decode (mC 177) 74 = .ok (.iload 4, 2) := by decide +kernel
theorem d_177_76 : decode (mC 177) 76 = .ok (.iload 5, 2) := by decide +kernel
theorem d_177_78 : decode (mC 177) 78 = .ok (.idiv, 1) := by decide +kernel
theorem d_177_79 : decode (mC 177) 79 = .ok (.invokestatic 132, 3) := by decide +kernel
theorem sk_177_132 : SKc 177 132 84 3 := ⟨⟨List.mem_of_getElem? (i := 808) (by decide +kernel), by decide +kernel⟩, List.mem_of_getElem? (i := 809) (by decide +kernel), mo_84, m0_84⟩
theorem d_177_82 : decode (mC 177) 82 = .ok (.ireturn, 1) := by decide +kernel
theorem d_177_65 : decode (mC 177) 65 = .ok (.iconst (-1), 1) := by decide +kernel
theorem d_177_66 : decode (mC 177) 66 = .ok (.goto 16, 3) := by decide +kernel
theorem d_179_15 : decode (mC 179) 15 = .ok (.iconst (-1), 1) := by decide +kernel
theorem d_179_16 : decode (mC 179) 16 = .ok (.goto 12, 3) := by decide +kernel
theorem d_179_28 : decode (mC 179) 28 = .ok (.ireturn, 1) := by decide +kernel
theorem mr_179 : mR 179 = some .int := by decide +kernel
theorem d_179_0 : decode (mC 179) 0 = .ok (.iload_n 1, 1) := by decide +kernel
theorem d_179_1 : decode (mC 179) 1 = .ok (.ifCond .lt 14, 3) := by decide +kernel
theorem d_179_4 : decode (mC 179) 4 = .ok (.iload_n 1, 1) := by decide +kernel
theorem d_179_5 : decode (mC 179) 5 = .ok (.aload_n 0, 1) := by decide +kernel
theorem d_179_6 : decode (mC 179) 6 = .ok (.getfield 74, 3) := by decide +kernel
theorem cn_179 : (mN 179).cls = "CordLoft" := by decide +kernel
theorem d_179_9 : decode (mC 179) 9 = .ok (.getfield 306, 3) := by decide +kernel
theorem fk_CordLoft_306 : FK 0 "CordLoft" 306 3 7 := ⟨⟨_, rfl, by decide, List.mem_of_getElem? (i := 428) (by decide +kernel)⟩, rfl, by decide⟩
theorem d_179_12 : decode (mC 179) 12 = .ok (.if_icmp .lt 7, 3) := by decide +kernel
theorem d_179_19 : decode (mC 179) 19 = .ok (.aload_n 0, 1) := by decide +kernel
theorem d_179_20 : decode (mC 179) 20 = .ok (.getfield 74, 3) := by decide +kernel
theorem d_179_23 : decode (mC 179) 23 = .ok (.getfield 309, 3) := by decide +kernel
theorem fk_CordLoft_309 : FK 2 "CordLoft" 309 3 6 := ⟨⟨_, rfl, by decide, List.mem_of_getElem? (i := 426) (by decide +kernel)⟩, rfl, by decide⟩
theorem d_179_26 : decode (mC 179) 26 = .ok (.iload_n 1, 1) := by decide +kernel
theorem d_179_27 : decode (mC 179) 27 = .ok (.iaload, 1) := by decide +kernel
theorem ml_179 : mL 179 = 2 := by decide +kernel
theorem d_181_0 : decode (mC 181) 0 = .ok (.aload_n 0, 1) := by decide +kernel
theorem d_181_1 : decode (mC 181) 1 = .ok (.getfield 25, 3) := by decide +kernel
theorem fk_CordLoft_Sight_25 : FK 0 "CordLoft$Sight" 25 7 6 := ⟨⟨_, rfl, by decide, List.mem_of_getElem? (i := 458) (by decide +kernel)⟩, rfl, by decide⟩
theorem cn_181 : (mN 181).cls = "CordLoft$Sight" := by decide +kernel
theorem d_181_4 : decode (mC 181) 4 = .ok (.bipush 30, 2) := by decide +kernel
theorem d_181_6 : decode (mC 181) 6 = .ok (.if_icmp .lt 5, 3) := by decide +kernel
theorem d_181_11 : decode (mC 181) 11 = .ok (.aload_n 0, 1) := by decide +kernel
theorem d_181_12 : decode (mC 181) 12 = .ok (.getfield 11, 3) := by decide +kernel
theorem fk_CordLoft_Sight_11 : FK 2 "CordLoft$Sight" 11 7 0 := ⟨⟨_, rfl, by decide, List.mem_of_getElem? (i := 452) (by decide +kernel)⟩, rfl, by decide⟩
theorem ft_8_0 : finT 8 0 = some (100, 0) := by decide +kernel
theorem k_100 : kd0 100 = 20 := by decide +kernel
theorem l_100 : ln0 100 = 30 := by decide +kernel
theorem d_181_15 : decode (mC 181) 15 = .ok (.aload_n 0, 1) := by decide +kernel
theorem d_181_16 : decode (mC 181) 16 = .ok (.getfield 25, 3) := by decide +kernel
theorem d_181_19 : decode (mC 181) 19 = .ok (.iload_n 1, 1) := by decide +kernel
theorem d_181_20 : decode (mC 181) 20 = .ok (.iastore, 1) := by decide +kernel
theorem d_181_21 : decode (mC 181) 21 = .ok (.aload_n 0, 1) := by decide +kernel
theorem d_181_22 : decode (mC 181) 22 = .ok (.getfield 15, 3) := by decide +kernel
theorem fk_CordLoft_Sight_15 : FK 2 "CordLoft$Sight" 15 7 1 := ⟨⟨_, rfl, by decide, List.mem_of_getElem? (i := 453) (by decide +kernel)⟩, rfl, by decide⟩
theorem ft_8_1 : finT 8 1 = some (101, 0) := by decide +kernel
theorem k_101 : kd0 101 = 23 := by decide +kernel
theorem l_101 : ln0 101 = 30 := by decide +kernel
theorem d_181_25 : decode (mC 181) 25 = .ok (.aload_n 0, 1) := by decide +kernel
theorem d_181_26 : decode (mC 181) 26 = .ok (.getfield 25, 3) := by decide +kernel
theorem d_181_29 : decode (mC 181) 29 = .ok (.iload_n 2, 1) := by decide +kernel
theorem d_181_30 : decode (mC 181) 30 = .ok (.bastore, 1) := by decide +kernel
theorem d_181_31 : decode (mC 181) 31 = .ok (.aload_n 0, 1) := by decide +kernel
theorem d_181_32 : decode (mC 181) 32 = .ok (.getfield 19, 3) := by decide +kernel
theorem fk_CordLoft_Sight_19 : FK 2 "CordLoft$Sight" 19 7 2 := ⟨⟨_, rfl, by decide, List.mem_of_getElem? (i := 454) (by decide +kernel)⟩, rfl, by decide⟩
theorem ft_8_2 : finT 8 2 = some (102, 0) := by decide +kernel
theorem k_102 : kd0 102 = 20 := by decide +kernel
theorem l_102 : ln0 102 = 30 := by decide +kernel
theorem d_181_35 : decode (mC 181) 35 = .ok (.aload_n 0, 1) := by decide +kernel
theorem d_181_36 : decode (mC 181) 36 = .ok (.getfield 25, 3) := by decide +kernel
theorem d_181_39 : decode (mC 181) 39 = .ok (.aload_n 0, 1) := by decide +kernel
theorem d_181_40 : decode (mC 181) 40 = .ok (.getfield 29, 3) := by decide +kernel
theorem fk_CordLoft_Sight_29 : FK 0 "CordLoft$Sight" 29 7 7 := ⟨⟨_, rfl, by decide, List.mem_of_getElem? (i := 460) (by decide +kernel)⟩, rfl, by decide⟩
theorem d_181_43 : decode (mC 181) 43 = .ok (.iastore, 1) := by decide +kernel
theorem d_181_44 : decode (mC 181) 44 = .ok (.aload_n 0, 1) := by decide +kernel
theorem d_181_45 : decode (mC 181) 45 = .ok (.getfield 22, 3) := by decide +kernel
theorem fk_CordLoft_Sight_22 : FK 2 "CordLoft$Sight" 22 7 3 := ⟨⟨_, rfl, by decide, List.mem_of_getElem? (i := 455) (by decide +kernel)⟩, rfl, by decide⟩
theorem ft_8_3 : finT 8 3 = some (103, 0) := by decide +kernel
theorem k_103 : kd0 103 = 20 := by decide +kernel
theorem l_103 : ln0 103 = 30 := by decide +kernel
theorem d_181_48 : decode (mC 181) 48 = .ok (.aload_n 0, 1) := by decide +kernel
theorem d_181_49 : decode (mC 181) 49 = .ok (.getfield 25, 3) := by decide +kernel
theorem d_181_52 : decode (mC 181) 52 = .ok (.iconst (-1), 1) := by decide +kernel
theorem d_181_53 : decode (mC 181) 53 = .ok (.iastore, 1) := by decide +kernel
theorem d_181_54 : decode (mC 181) 54 = .ok (.aload_n 0, 1) := by decide +kernel
theorem d_181_55 : decode (mC 181) 55 = .ok (.dup, 1) := by decide +kernel
theorem d_181_56 : decode (mC 181) 56 = .ok (.getfield 25, 3) := by decide +kernel
theorem d_181_59 : decode (mC 181) 59 = .ok (.iconst 1, 1) := by decide +kernel
theorem d_181_60 : decode (mC 181) 60 = .ok (.iadd, 1) := by decide +kernel
theorem d_181_61 : decode (mC 181) 61 = .ok (.putfield 25, 3) := by decide +kernel
theorem d_181_64 : decode (mC 181) 64 = .ok (.aload_n 0, 1) := by decide +kernel
theorem d_181_65 : decode (mC 181) 65 = .ok (.getfield 25, 3) := by decide +kernel
theorem d_181_68 : decode (mC 181) 68 = .ok (.iconst 1, 1) := by decide +kernel
theorem d_181_69 : decode (mC 181) 69 = .ok (.isub, 1) := by decide +kernel
theorem d_181_70 : decode (mC 181) 70 = .ok (.ireturn, 1) := by decide +kernel
theorem mr_181 : mR 181 = some .int := by decide +kernel
theorem d_181_9 : decode (mC 181) 9 = .ok (.iconst (-1), 1) := by decide +kernel
theorem d_181_10 : decode (mC 181) 10 = .ok (.ireturn, 1) := by decide +kernel
theorem ml_181 : mL 181 = 3 := by decide +kernel
theorem d_180_0 : decode (mC 180) 0 = .ok (.aload_n 0, 1) := by decide +kernel
theorem d_180_1 : decode (mC 180) 1 = .ok (.getfield 35, 3) := by decide +kernel
theorem cn_180 : (mN 180).cls = "CordLoft" := by decide +kernel
theorem d_180_4 : decode (mC 180) 4 = .ok (.iload_n 1, 1) := by decide +kernel
theorem d_180_5 : decode (mC 180) 5 = .ok (.invokevirtual 136, 3) := by decide +kernel
theorem vk_180_136 : VK 180 136 86 1 4 := ⟨⟨List.mem_of_getElem? (i := 815) (by decide +kernel), by decide +kernel⟩, List.mem_of_getElem? (i := 816) (by decide +kernel), mo_86, m0_86, _, rfl, List.mem_of_getElem? (i := 817) (by decide +kernel), by decide⟩
theorem d_180_8 : decode (mC 180) 8 = .ok (.ifCond .eq 15, 3) := by decide +kernel
theorem d_180_23 : decode (mC 180) 23 = .ok (.iconst (-1), 1) := by decide +kernel
theorem d_180_24 : decode (mC 180) 24 = .ok (.ireturn, 1) := by decide +kernel
theorem mr_180 : mR 180 = some .int := by decide +kernel
theorem d_180_11 : decode (mC 180) 11 = .ok (.aload_n 0, 1) := by decide +kernel
theorem d_180_12 : decode (mC 180) 12 = .ok (.getfield 81, 3) := by decide +kernel
theorem d_180_15 : decode (mC 180) 15 = .ok (.iload_n 1, 1) := by decide +kernel
theorem d_180_16 : decode (mC 180) 16 = .ok (.iload_n 2, 1) := by decide +kernel
theorem d_180_17 : decode (mC 180) 17 = .ok (.invokevirtual 312, 3) := by decide +kernel
theorem mo_181 : MOK 181 := ⟨List.mem_of_getElem? (i := 1212) (by decide +kernel), by decide +kernel, ⟨by decide +kernel, by decide +kernel⟩, List.mem_of_getElem? (i := 99) (by decide +kernel), by decide +kernel⟩
theorem m0_181 : M0K 181 := ⟨by decide +kernel, by decide +kernel⟩
theorem vk_180_312 : VK 180 312 181 2 7 := ⟨⟨List.mem_of_getElem? (i := 1209) (by decide +kernel), by decide +kernel⟩, List.mem_of_getElem? (i := 1210) (by decide +kernel), mo_181, m0_181, _, rfl, List.mem_of_getElem? (i := 1211) (by decide +kernel), by decide⟩
theorem d_180_20 : decode (mC 180) 20 = .ok (.goto 4, 3) := by decide +kernel
theorem ml_180 : mL 180 = 3 := by decide +kernel
theorem d_183_0 : decode (mC 183) 0 = .ok (.iload_n 1, 1) := by decide +kernel
theorem d_183_1 : decode (mC 183) 1 = .ok (.ifCond .lt 20, 3) := by decide +kernel
theorem d_183_21 : decode (mC 183) 21 = .ok (.iconst 0, 1) := by decide +kernel
theorem d_183_22 : decode (mC 183) 22 = .ok (.ireturn, 1) := by decide +kernel
theorem mr_183 : mR 183 = some .boolean := by decide +kernel
theorem d_183_4 : decode (mC 183) 4 = .ok (.iload_n 1, 1) := by decide +kernel
theorem d_183_5 : decode (mC 183) 5 = .ok (.aload_n 0, 1) := by decide +kernel
theorem d_183_6 : decode (mC 183) 6 = .ok (.getfield 25, 3) := by decide +kernel
theorem cn_183 : (mN 183).cls = "CordLoft$Sight" := by decide +kernel
theorem d_183_9 : decode (mC 183) 9 = .ok (.if_icmp .ge 12, 3) := by decide +kernel
theorem d_183_12 : decode (mC 183) 12 = .ok (.aload_n 0, 1) := by decide +kernel
theorem d_183_13 : decode (mC 183) 13 = .ok (.getfield 22, 3) := by decide +kernel
theorem d_183_16 : decode (mC 183) 16 = .ok (.iload_n 1, 1) := by decide +kernel
theorem d_183_17 : decode (mC 183) 17 = .ok (.iaload, 1) := by decide +kernel
theorem d_183_18 : decode (mC 183) 18 = .ok (.ifCond .lt 5, 3) := by decide +kernel
theorem d_183_23 : decode (mC 183) 23 = .ok (.aload_n 0, 1) := by decide +kernel
theorem d_183_24 : decode (mC 183) 24 = .ok (.getfield 22, 3) := by decide +kernel
theorem d_183_27 : decode (mC 183) 27 = .ok (.iload_n 1, 1) := by decide +kernel
theorem d_183_28 : decode (mC 183) 28 = .ok (.aload_n 0, 1) := by decide +kernel
theorem d_183_29 : decode (mC 183) 29 = .ok (.getfield 29, 3) := by decide +kernel
theorem d_183_32 : decode (mC 183) 32 = .ok (.iastore, 1) := by decide +kernel
theorem d_183_33 : decode (mC 183) 33 = .ok (.iconst 1, 1) := by decide +kernel
theorem d_183_34 : decode (mC 183) 34 = .ok (.ireturn, 1) := by decide +kernel
theorem ml_183 : mL 183 = 2 := by decide +kernel
theorem d_182_0 : decode (mC 182) 0 = .ok (.aload_n 0, 1) := by decide +kernel
theorem d_182_1 : decode (mC 182) 1 = .ok (.getfield 81, 3) := by decide +kernel
theorem cn_182 : (mN 182).cls = "CordLoft" := by decide +kernel
theorem d_182_4 : decode (mC 182) 4 = .ok (.iload_n 1, 1) := by decide +kernel
theorem d_182_5 : decode (mC 182) 5 = .ok (.invokevirtual 316, 3) := by decide +kernel
theorem mo_183 : MOK 183 := ⟨List.mem_of_getElem? (i := 1220) (by decide +kernel), by decide +kernel, ⟨by decide +kernel, by decide +kernel⟩, List.mem_of_getElem? (i := 99) (by decide +kernel), by decide +kernel⟩
theorem m0_183 : M0K 183 := ⟨by decide +kernel, by decide +kernel⟩
theorem vk_182_316 : VK 182 316 183 1 7 := ⟨⟨List.mem_of_getElem? (i := 1217) (by decide +kernel), by decide +kernel⟩, List.mem_of_getElem? (i := 1218) (by decide +kernel), mo_183, m0_183, _, rfl, List.mem_of_getElem? (i := 1219) (by decide +kernel), by decide⟩
theorem d_182_8 : decode (mC 182) 8 = .ok (.ireturn, 1) := by decide +kernel
theorem mr_182 : mR 182 = some .boolean := by decide +kernel
theorem ml_182 : mL 182 = 2 := by decide +kernel
theorem d_185_0 : decode (mC 185) 0 = .ok (.iload_n 1, 1) := by decide +kernel
theorem d_185_1 : decode (mC 185) 1 = .ok (.ifCond .lt 21, 3) := by decide +kernel
theorem d_185_22 : decode (mC 185) 22 = .ok (.iconst (-1), 1) := by decide +kernel
theorem d_185_23 : decode (mC 185) 23 = .ok (.ireturn, 1) := by decide +kernel
theorem mr_185 : mR 185 = some .int := by decide +kernel
theorem d_185_4 : decode (mC 185) 4 = .ok (.iload_n 1, 1) := by decide +kernel
theorem d_185_5 : decode (mC 185) 5 = .ok (.sipush 1000, 3) := by decide +kernel
theorem d_185_8 : decode (mC 185) 8 = .ok (.if_icmp .gt 14, 3) := by decide +kernel
theorem d_185_11 : decode (mC 185) 11 = .ok (.aload_n 0, 1) := by decide +kernel
theorem d_185_12 : decode (mC 185) 12 = .ok (.getfield 29, 3) := by decide +kernel
theorem cn_185 : (mN 185).cls = "CordLoft$Sight" := by decide +kernel
theorem d_185_15 : decode (mC 185) 15 = .ok (.iload_n 1, 1) := by decide +kernel
theorem d_185_16 : decode (mC 185) 16 = .ok (.iadd, 1) := by decide +kernel
theorem d_185_17 : decode (mC 185) 17 = .ok (.ldc 32, 2) := by decide +kernel
theorem cw_CordLoft_Sight_32 : Cond.constant "CordLoft$Sight" 32 100000 ∈ lw_tbl := List.mem_of_getElem? (i := 1229) (by decide +kernel)
theorem d_185_19 : decode (mC 185) 19 = .ok (.if_icmp .le 5, 3) := by decide +kernel
theorem d_185_24 : decode (mC 185) 24 = .ok (.aload_n 0, 1) := by decide +kernel
theorem d_185_25 : decode (mC 185) 25 = .ok (.dup, 1) := by decide +kernel
theorem d_185_26 : decode (mC 185) 26 = .ok (.getfield 29, 3) := by decide +kernel
theorem d_185_29 : decode (mC 185) 29 = .ok (.iload_n 1, 1) := by decide +kernel
theorem d_185_30 : decode (mC 185) 30 = .ok (.iadd, 1) := by decide +kernel
theorem d_185_31 : decode (mC 185) 31 = .ok (.putfield 29, 3) := by decide +kernel
theorem fp_CordLoft_Sight_29 : FP 0 "CordLoft$Sight" 29 7 7 := ⟨⟨_, rfl, by decide, List.mem_of_getElem? (i := 460) (by decide +kernel), rfl⟩, rfl, by decide, by decide +kernel⟩
theorem d_185_34 : decode (mC 185) 34 = .ok (.aload_n 0, 1) := by decide +kernel
theorem d_185_35 : decode (mC 185) 35 = .ok (.getfield 29, 3) := by decide +kernel
theorem d_185_38 : decode (mC 185) 38 = .ok (.ireturn, 1) := by decide +kernel
theorem ml_185 : mL 185 = 2 := by decide +kernel
theorem d_184_0 : decode (mC 184) 0 = .ok (.aload_n 0, 1) := by decide +kernel
theorem d_184_1 : decode (mC 184) 1 = .ok (.getfield 81, 3) := by decide +kernel
theorem cn_184 : (mN 184).cls = "CordLoft" := by decide +kernel
theorem d_184_4 : decode (mC 184) 4 = .ok (.iload_n 1, 1) := by decide +kernel
theorem d_184_5 : decode (mC 184) 5 = .ok (.invokevirtual 319, 3) := by decide +kernel
theorem mo_185 : MOK 185 := ⟨List.mem_of_getElem? (i := 1228) (by decide +kernel), by decide +kernel, ⟨by decide +kernel, by decide +kernel⟩, List.mem_of_getElem? (i := 99) (by decide +kernel), by decide +kernel⟩
theorem m0_185 : M0K 185 := ⟨by decide +kernel, by decide +kernel⟩
theorem vk_184_319 : VK 184 319 185 1 7 := ⟨⟨List.mem_of_getElem? (i := 1225) (by decide +kernel), by decide +kernel⟩, List.mem_of_getElem? (i := 1226) (by decide +kernel), mo_185, m0_185, _, rfl, List.mem_of_getElem? (i := 1227) (by decide +kernel), by decide⟩
theorem d_184_8 : decode (mC 184) 8 = .ok (.ireturn, 1) := by decide +kernel
theorem mr_184 : mR 184 = some .int := by decide +kernel
theorem ml_184 : mL 184 = 2 := by decide +kernel
theorem d_187_89 : decode (mC 187) 89 = .ok (.ior, 1) := by decide +kernel
theorem d_187_90 : decode (mC 187) 90 = .ok (.putfield 33, 3) := by decide +kernel
theorem fp_CordLoft_Sight_33 : FP 0 "CordLoft$Sight" 33 7 4 := ⟨⟨_, rfl, by decide, List.mem_of_getElem? (i := 456) (by decide +kernel), rfl⟩, rfl, by decide, by decide +kernel⟩
theorem cn_187 : (mN 187).cls = "CordLoft$Sight" := by decide +kernel
theorem d_187_93 : decode (mC 187) 93 = .ok (.aload_n 0, 1) := by decide +kernel
theorem d_187_94 : decode (mC 187) 94 = .ok (.dup, 1) := by decide +kernel
theorem d_187_95 : decode (mC 187) 95 = .ok (.getfield 36, 3) := by decide +kernel
theorem fk_CordLoft_Sight_36 : FK 0 "CordLoft$Sight" 36 7 5 := ⟨⟨_, rfl, by decide, List.mem_of_getElem? (i := 457) (by decide +kernel)⟩, rfl, by decide⟩
theorem d_187_98 : decode (mC 187) 98 = .ok (.aload_n 0, 1) := by decide +kernel
theorem d_187_99 : decode (mC 187) 99 = .ok (.getfield 15, 3) := by decide +kernel
theorem d_187_102 : decode (mC 187) 102 = .ok (.iload_n 2, 1) := by decide +kernel
theorem d_187_103 : decode (mC 187) 103 = .ok (.baload, 1) := by decide +kernel
theorem d_187_104 : decode (mC 187) 104 = .ok (.ifCond .eq 7, 3) := by decide +kernel
theorem d_187_111 : decode (mC 187) 111 = .ok (.iload 4, 2) := by decide +kernel
theorem d_187_113 : decode (mC 187) 113 = .ok (.ior, 1) := by decide +kernel
theorem d_187_114 : decode (mC 187) 114 = .ok (.putfield 36, 3) := by decide +kernel
theorem fp_CordLoft_Sight_36 : FP 0 "CordLoft$Sight" 36 7 5 := ⟨⟨_, rfl, by decide, List.mem_of_getElem? (i := 457) (by decide +kernel), rfl⟩, rfl, by decide, by decide +kernel⟩
theorem d_187_117 : decode (mC 187) 117 = .ok (.iinc 2 1, 3) := by decide +kernel
theorem ml_187 : mL 187 = 5 := by decide +kernel
theorem d_187_120 : decode (mC 187) 120 = .ok (.goto (-108), 3) := by decide +kernel
theorem d_187_107 : decode (mC 187) 107 = .ok (.iconst 0, 1) := by decide +kernel
theorem d_187_108 : decode (mC 187) 108 = .ok (.goto 5, 3) := by decide +kernel
theorem d_187_44 : decode (mC 187) 44 = .ok (.istore_n 3, 1) := by decide +kernel
theorem d_187_45 : decode (mC 187) 45 = .ok (.aload_n 0, 1) := by decide +kernel
theorem d_187_46 : decode (mC 187) 46 = .ok (.getfield 19, 3) := by decide +kernel
theorem d_187_49 : decode (mC 187) 49 = .ok (.iload_n 2, 1) := by decide +kernel
theorem d_187_50 : decode (mC 187) 50 = .ok (.iaload, 1) := by decide +kernel
theorem d_187_51 : decode (mC 187) 51 = .ok (.iload_n 1, 1) := by decide +kernel
theorem d_187_52 : decode (mC 187) 52 = .ok (.if_icmp .gt 65, 3) := by decide +kernel
theorem d_187_55 : decode (mC 187) 55 = .ok (.iload_n 3, 1) := by decide +kernel
theorem d_187_56 : decode (mC 187) 56 = .ok (.ifCond .ne 61, 3) := by decide +kernel
theorem d_187_59 : decode (mC 187) 59 = .ok (.iconst 1, 1) := by decide +kernel
theorem d_187_60 : decode (mC 187) 60 = .ok (.aload_n 0, 1) := by decide +kernel
theorem d_187_61 : decode (mC 187) 61 = .ok (.getfield 11, 3) := by decide +kernel
theorem d_187_64 : decode (mC 187) 64 = .ok (.iload_n 2, 1) := by decide +kernel
theorem d_187_65 : decode (mC 187) 65 = .ok (.iaload, 1) := by decide +kernel
theorem d_187_66 : decode (mC 187) 66 = .ok (.ishl, 1) := by decide +kernel
theorem d_187_67 : decode (mC 187) 67 = .ok (.istore 4, 2) := by decide +kernel
theorem d_187_69 : decode (mC 187) 69 = .ok (.aload_n 0, 1) := by decide +kernel
theorem d_187_70 : decode (mC 187) 70 = .ok (.dup, 1) := by decide +kernel
theorem d_187_71 : decode (mC 187) 71 = .ok (.getfield 33, 3) := by decide +kernel
theorem fk_CordLoft_Sight_33 : FK 0 "CordLoft$Sight" 33 7 4 := ⟨⟨_, rfl, by decide, List.mem_of_getElem? (i := 456) (by decide +kernel)⟩, rfl, by decide⟩
theorem d_187_74 : decode (mC 187) 74 = .ok (.aload_n 0, 1) := by decide +kernel
theorem d_187_75 : decode (mC 187) 75 = .ok (.getfield 15, 3) := by decide +kernel
theorem d_187_78 : decode (mC 187) 78 = .ok (.iload_n 2, 1) := by decide +kernel
theorem d_187_79 : decode (mC 187) 79 = .ok (.baload, 1) := by decide +kernel
theorem d_187_80 : decode (mC 187) 80 = .ok (.ifCond .eq 8, 3) := by decide +kernel
theorem d_187_88 : decode (mC 187) 88 = .ok (.iconst 0, 1) := by decide +kernel
theorem d_187_83 : decode (mC 187) 83 = .ok (.iload 4, 2) := by decide +kernel
theorem d_187_85 : decode (mC 187) 85 = .ok (.goto 4, 3) := by decide +kernel
theorem d_187_43 : decode (mC 187) 43 = .ok (.iconst 0, 1) := by decide +kernel
theorem d_187_12 : decode (mC 187) 12 = .ok (.iload_n 2, 1) := by decide +kernel
theorem d_187_13 : decode (mC 187) 13 = .ok (.aload_n 0, 1) := by decide +kernel
theorem d_187_14 : decode (mC 187) 14 = .ok (.getfield 25, 3) := by decide +kernel
theorem d_187_17 : decode (mC 187) 17 = .ok (.if_icmp .ge 106, 3) := by decide +kernel
theorem d_187_20 : decode (mC 187) 20 = .ok (.aload_n 0, 1) := by decide +kernel
theorem d_187_21 : decode (mC 187) 21 = .ok (.getfield 22, 3) := by decide +kernel
theorem d_187_24 : decode (mC 187) 24 = .ok (.iload_n 2, 1) := by decide +kernel
theorem d_187_25 : decode (mC 187) 25 = .ok (.iaload, 1) := by decide +kernel
theorem d_187_26 : decode (mC 187) 26 = .ok (.ifCond .lt 17, 3) := by decide +kernel
theorem d_187_29 : decode (mC 187) 29 = .ok (.aload_n 0, 1) := by decide +kernel
theorem d_187_30 : decode (mC 187) 30 = .ok (.getfield 22, 3) := by decide +kernel
theorem d_187_33 : decode (mC 187) 33 = .ok (.iload_n 2, 1) := by decide +kernel
theorem d_187_34 : decode (mC 187) 34 = .ok (.iaload, 1) := by decide +kernel
