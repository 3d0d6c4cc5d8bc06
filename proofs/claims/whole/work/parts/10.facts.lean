theorem k_3 : kd0 3 = 11 := by decide +kernel
theorem d_54_0 : decode (mC 54) 0 = .ok (.aload_n 0, 1) := by decide +kernel
theorem d_54_1 : decode (mC 54) 1 = .ok (.getfield 39, 3) := by decide +kernel
theorem fk_CordLoft_Tokens_39 : FK 0 "CordLoft$Tokens" 39 10 4 := ⟨⟨_, rfl, by decide, List.mem_of_getElem? (i := 141) (by decide +kernel)⟩, rfl, by decide⟩
theorem cn_54 : (mN 54).cls = "CordLoft$Tokens" := by decide +kernel
theorem d_54_4 : decode (mC 54) 4 = .ok (.iconst 1, 1) := by decide +kernel
theorem ic_1 : Int32.ofInt 1 = 1 := by decide +kernel
theorem d_54_5 : decode (mC 54) 5 = .ok (.iadd, 1) := by decide +kernel
theorem d_54_6 : decode (mC 54) 6 = .ok (.aload_n 0, 1) := by decide +kernel
theorem d_54_7 : decode (mC 54) 7 = .ok (.getfield 24, 3) := by decide +kernel
theorem fk_CordLoft_Tokens_24 : FK 0 "CordLoft$Tokens" 24 10 3 := ⟨⟨_, rfl, by decide, List.mem_of_getElem? (i := 140) (by decide +kernel)⟩, rfl, by decide⟩
theorem d_54_10 : decode (mC 54) 10 = .ok (.if_icmp .ge 52, 3) := by decide +kernel
theorem d_54_62 : decode (mC 54) 62 = .ok (.return_, 1) := by decide +kernel
theorem mr_54 : mR 54 = none := by decide +kernel
theorem d_54_13 : decode (mC 54) 13 = .ok (.aload_n 0, 1) := by decide +kernel
theorem d_54_14 : decode (mC 54) 14 = .ok (.dup, 1) := by decide +kernel
theorem d_54_15 : decode (mC 54) 15 = .ok (.getfield 39, 3) := by decide +kernel
theorem d_54_18 : decode (mC 54) 18 = .ok (.iconst 1, 1) := by decide +kernel
theorem d_54_19 : decode (mC 54) 19 = .ok (.iadd, 1) := by decide +kernel
theorem d_54_20 : decode (mC 54) 20 = .ok (.putfield 39, 3) := by decide +kernel
theorem fp_CordLoft_Tokens_39 : FP 0 "CordLoft$Tokens" 39 10 4 := ⟨⟨_, rfl, by decide, List.mem_of_getElem? (i := 141) (by decide +kernel), rfl⟩, rfl, by decide, by decide +kernel⟩
theorem d_54_23 : decode (mC 54) 23 = .ok (.aload_n 0, 1) := by decide +kernel
theorem d_54_24 : decode (mC 54) 24 = .ok (.aload_n 0, 1) := by decide +kernel
theorem d_54_25 : decode (mC 54) 25 = .ok (.getfield 11, 3) := by decide +kernel
theorem fk_CordLoft_Tokens_11 : FK 2 "CordLoft$Tokens" 11 10 0 := ⟨⟨_, rfl, by decide, List.mem_of_getElem? (i := 137) (by decide +kernel)⟩, rfl, by decide⟩
theorem ft_11_0 : finT 11 0 = some (4, 0) := by decide +kernel
theorem k_4 : kd0 4 = 20 := by decide +kernel
theorem l_4 : ln0 4 = 1601 := by decide +kernel
theorem d_54_28 : decode (mC 54) 28 = .ok (.aload_n 0, 1) := by decide +kernel
theorem d_54_29 : decode (mC 54) 29 = .ok (.getfield 39, 3) := by decide +kernel
theorem d_54_32 : decode (mC 54) 32 = .ok (.iaload, 1) := by decide +kernel
theorem d_54_33 : decode (mC 54) 33 = .ok (.putfield 45, 3) := by decide +kernel
theorem fp_CordLoft_Tokens_45 : FP 0 "CordLoft$Tokens" 45 10 6 := ⟨⟨_, rfl, by decide, List.mem_of_getElem? (i := 144) (by decide +kernel), rfl⟩, rfl, by decide, by decide +kernel⟩
theorem d_54_36 : decode (mC 54) 36 = .ok (.aload_n 0, 1) := by decide +kernel
theorem d_54_37 : decode (mC 54) 37 = .ok (.aload_n 0, 1) := by decide +kernel
theorem d_54_38 : decode (mC 54) 38 = .ok (.getfield 17, 3) := by decide +kernel
theorem fk_CordLoft_Tokens_17 : FK 2 "CordLoft$Tokens" 17 10 1 := ⟨⟨_, rfl, by decide, List.mem_of_getElem? (i := 138) (by decide +kernel)⟩, rfl, by decide⟩
theorem ft_11_1 : finT 11 1 = some (5, 0) := by decide +kernel
theorem k_5 : kd0 5 = 20 := by decide +kernel
theorem l_5 : ln0 5 = 1601 := by decide +kernel
theorem d_54_41 : decode (mC 54) 41 = .ok (.aload_n 0, 1) := by decide +kernel
theorem d_54_42 : decode (mC 54) 42 = .ok (.getfield 39, 3) := by decide +kernel
theorem d_54_45 : decode (mC 54) 45 = .ok (.iaload, 1) := by decide +kernel
theorem d_54_46 : decode (mC 54) 46 = .ok (.putfield 48, 3) := by decide +kernel
theorem fp_CordLoft_Tokens_48 : FP 0 "CordLoft$Tokens" 48 10 7 := ⟨⟨_, rfl, by decide, List.mem_of_getElem? (i := 145) (by decide +kernel), rfl⟩, rfl, by decide, by decide +kernel⟩
theorem d_54_49 : decode (mC 54) 49 = .ok (.aload_n 0, 1) := by decide +kernel
theorem d_54_50 : decode (mC 54) 50 = .ok (.aload_n 0, 1) := by decide +kernel
theorem d_54_51 : decode (mC 54) 51 = .ok (.getfield 20, 3) := by decide +kernel
theorem fk_CordLoft_Tokens_20 : FK 2 "CordLoft$Tokens" 20 10 2 := ⟨⟨_, rfl, by decide, List.mem_of_getElem? (i := 139) (by decide +kernel)⟩, rfl, by decide⟩
theorem ft_11_2 : finT 11 2 = some (6, 0) := by decide +kernel
theorem k_6 : kd0 6 = 21 := by decide +kernel
theorem l_6 : ln0 6 = 1601 := by decide +kernel
theorem d_54_54 : decode (mC 54) 54 = .ok (.aload_n 0, 1) := by decide +kernel
theorem d_54_55 : decode (mC 54) 55 = .ok (.getfield 39, 3) := by decide +kernel
theorem d_54_58 : decode (mC 54) 58 = .ok (.laload, 1) := by decide +kernel
theorem d_54_59 : decode (mC 54) 59 = .ok (.putfield 51, 3) := by decide +kernel
theorem fp_CordLoft_Tokens_51 : FP 1 "CordLoft$Tokens" 51 10 8 := ⟨⟨_, rfl, by decide, List.mem_of_getElem? (i := 147) (by decide +kernel), rfl⟩, rfl, by decide, by decide +kernel⟩
theorem ml_54 : mL 54 = 1 := by decide +kernel
theorem k_7 : kd0 7 = 6 := by decide +kernel
theorem d_60_17 : decode (mC 60) 17 = .ok (.putfield 28, 3) := by decide +kernel
theorem fp_CordLoft_Reader_28 : FP 0 "CordLoft$Reader" 28 5 4 := ⟨⟨_, rfl, by decide, List.mem_of_getElem? (i := 180) (by decide +kernel), rfl⟩, rfl, by decide, by decide +kernel⟩
theorem cn_60 : (mN 60).cls = "CordLoft$Reader" := by decide +kernel
theorem d_60_20 : decode (mC 60) 20 = .ok (.aload_n 0, 1) := by decide +kernel
theorem d_60_21 : decode (mC 60) 21 = .ok (.aload_n 0, 1) := by decide +kernel
theorem d_60_22 : decode (mC 60) 22 = .ok (.getfield 9, 3) := by decide +kernel
theorem fk_CordLoft_Reader_9 : FK 2 "CordLoft$Reader" 9 5 0 := ⟨⟨_, rfl, by decide, List.mem_of_getElem? (i := 176) (by decide +kernel)⟩, rfl, by decide⟩
theorem ft_6_0 : finT 6 0 = some (3, 0) := by decide +kernel
theorem l_3 : ln0 3 = 9 := by decide +kernel
theorem d_60_25 : decode (mC 60) 25 = .ok (.getfield 159, 3) := by decide +kernel
theorem fk_CordLoft_Reader_159 : FK 0 "CordLoft$Reader" 159 10 7 := ⟨⟨_, rfl, by decide, List.mem_of_getElem? (i := 146) (by decide +kernel)⟩, rfl, by decide⟩
theorem d_60_28 : decode (mC 60) 28 = .ok (.putfield 31, 3) := by decide +kernel
theorem fp_CordLoft_Reader_31 : FP 0 "CordLoft$Reader" 31 5 5 := ⟨⟨_, rfl, by decide, List.mem_of_getElem? (i := 182) (by decide +kernel), rfl⟩, rfl, by decide, by decide +kernel⟩
theorem d_60_31 : decode (mC 60) 31 = .ok (.iconst 0, 1) := by decide +kernel
theorem ic_0 : Int32.ofInt 0 = 0 := by decide +kernel
theorem d_60_32 : decode (mC 60) 32 = .ok (.ireturn, 1) := by decide +kernel
theorem mr_60 : mR 60 = some .boolean := by decide +kernel
theorem d_60_0 : decode (mC 60) 0 = .ok (.aload_n 0, 1) := by decide +kernel
theorem d_60_1 : decode (mC 60) 1 = .ok (.aload_n 0, 1) := by decide +kernel
theorem d_60_2 : decode (mC 60) 2 = .ok (.getfield 9, 3) := by decide +kernel
theorem d_60_5 : decode (mC 60) 5 = .ok (.getfield 36, 3) := by decide +kernel
theorem fk_CordLoft_Reader_36 : FK 0 "CordLoft$Reader" 36 10 6 := ⟨⟨_, rfl, by decide, List.mem_of_getElem? (i := 143) (by decide +kernel)⟩, rfl, by decide⟩
theorem d_60_8 : decode (mC 60) 8 = .ok (.iconst 1, 1) := by decide +kernel
theorem d_60_9 : decode (mC 60) 9 = .ok (.if_icmp .ne 7, 3) := by decide +kernel
theorem d_60_16 : decode (mC 60) 16 = .ok (.iload_n 1, 1) := by decide +kernel
theorem d_60_12 : decode (mC 60) 12 = .ok (.iconst 1, 1) := by decide +kernel
theorem d_60_13 : decode (mC 60) 13 = .ok (.goto 4, 3) := by decide +kernel
theorem ml_60 : mL 60 = 2 := by decide +kernel
theorem d_67_0 : decode (mC 67) 0 = .ok (.aload_n 0, 1) := by decide +kernel
theorem d_67_1 : decode (mC 67) 1 = .ok (.getfield 9, 3) := by decide +kernel
theorem cn_67 : (mN 67).cls = "CordLoft$Reader" := by decide +kernel
theorem d_67_4 : decode (mC 67) 4 = .ok (.getfield 36, 3) := by decide +kernel
theorem d_67_7 : decode (mC 67) 7 = .ok (.iload_n 1, 1) := by decide +kernel
theorem d_67_8 : decode (mC 67) 8 = .ok (.if_icmp .eq 9, 3) := by decide +kernel
theorem d_67_17 : decode (mC 67) 17 = .ok (.aload_n 0, 1) := by decide +kernel
theorem d_67_18 : decode (mC 67) 18 = .ok (.getfield 9, 3) := by decide +kernel
theorem d_67_21 : decode (mC 67) 21 = .ok (.invokevirtual 89, 3) := by decide +kernel
theorem mo_54 : MOK 54 := ⟨List.mem_of_getElem? (i := 691) (by decide +kernel), by decide +kernel, ⟨by decide +kernel, by decide +kernel⟩, List.mem_of_getElem? (i := 90) (by decide +kernel), by decide +kernel⟩
theorem m0_54 : M0K 54 := ⟨by decide +kernel, by decide +kernel⟩
theorem vk_67_89 : VK 67 89 54 0 10 := ⟨⟨List.mem_of_getElem? (i := 716) (by decide +kernel), by decide +kernel⟩, List.mem_of_getElem? (i := 689) (by decide +kernel), mo_54, m0_54, _, rfl, List.mem_of_getElem? (i := 690) (by decide +kernel), by decide⟩
theorem d_67_24 : decode (mC 67) 24 = .ok (.iconst 1, 1) := by decide +kernel
theorem d_67_25 : decode (mC 67) 25 = .ok (.ireturn, 1) := by decide +kernel
theorem mr_67 : mR 67 = some .boolean := by decide +kernel
theorem d_67_11 : decode (mC 67) 11 = .ok (.aload_n 0, 1) := by decide +kernel
theorem d_67_12 : decode (mC 67) 12 = .ok (.iconst 2, 1) := by decide +kernel
theorem ic_2 : Int32.ofInt 2 = 2 := by decide +kernel
theorem d_67_13 : decode (mC 67) 13 = .ok (.invokevirtual 80, 3) := by decide +kernel
theorem mo_60 : MOK 60 := ⟨List.mem_of_getElem? (i := 715) (by decide +kernel), by decide +kernel, ⟨by decide +kernel, by decide +kernel⟩, List.mem_of_getElem? (i := 91) (by decide +kernel), by decide +kernel⟩
theorem m0_60 : M0K 60 := ⟨by decide +kernel, by decide +kernel⟩
theorem vk_67_80 : VK 67 80 60 1 5 := ⟨⟨List.mem_of_getElem? (i := 712) (by decide +kernel), by decide +kernel⟩, List.mem_of_getElem? (i := 714) (by decide +kernel), mo_60, m0_60, _, rfl, List.mem_of_getElem? (i := 6) (by decide +kernel), by decide⟩
theorem d_67_16 : decode (mC 67) 16 = .ok (.ireturn, 1) := by decide +kernel
theorem ml_67 : mL 67 = 2 := by decide +kernel
theorem d_74_0 : decode (mC 74) 0 = .ok (.aload_n 0, 1) := by decide +kernel
theorem d_74_1 : decode (mC 74) 1 = .ok (.getfield 19, 3) := by decide +kernel
theorem fk_CordLoft_Formula_19 : FK 0 "CordLoft$Formula" 19 2 1 := ⟨⟨_, rfl, by decide, List.mem_of_getElem? (i := 210) (by decide +kernel)⟩, rfl, by decide⟩
theorem cn_74 : (mN 74).cls = "CordLoft$Formula" := by decide +kernel
theorem d_74_4 : decode (mC 74) 4 = .ok (.sipush 270, 3) := by decide +kernel
theorem si_270 : (Int16.ofInt 270).toInt32 = 270 := by decide +kernel
theorem d_74_7 : decode (mC 74) 7 = .ok (.if_icmp .ge 23, 3) := by decide +kernel
theorem d_74_30 : decode (mC 74) 30 = .ok (.return_, 1) := by decide +kernel
theorem mr_74 : mR 74 = none := by decide +kernel
theorem d_74_10 : decode (mC 74) 10 = .ok (.aload_n 0, 1) := by decide +kernel
theorem d_74_11 : decode (mC 74) 11 = .ok (.getfield 9, 3) := by decide +kernel
theorem fk_CordLoft_Formula_9 : FK 2 "CordLoft$Formula" 9 2 0 := ⟨⟨_, rfl, by decide, List.mem_of_getElem? (i := 209) (by decide +kernel)⟩, rfl, by decide⟩
theorem ft_3_0 : finT 3 0 = some (1, 1) := by decide +kernel
theorem kr_3_1 {p : Nat} (h : kd0 p = 3) : kd0 (p + 1) = 20 := by
  have h1 : p < 138 := kd_138 h (by decide)
  have h2 : ∀ p, p < 138 → kd0 p = 3 → kd0 (p + 1) = 20 := by decide +kernel
  exact h2 p h1 h
theorem lr_3_1 {p : Nat} (h : kd0 p = 3) : ln0 (p + 1) = 270 := by
  have h1 : p < 138 := kd_138 h (by decide)
  have h2 : ∀ p, p < 138 → kd0 p = 3 → ln0 (p + 1) = 270 := by decide +kernel
  exact h2 p h1 h
theorem d_74_14 : decode (mC 74) 14 = .ok (.aload_n 0, 1) := by decide +kernel
theorem d_74_15 : decode (mC 74) 15 = .ok (.getfield 19, 3) := by decide +kernel
theorem d_74_18 : decode (mC 74) 18 = .ok (.iload_n 1, 1) := by decide +kernel
theorem d_74_19 : decode (mC 74) 19 = .ok (.iastore, 1) := by decide +kernel
theorem d_74_20 : decode (mC 74) 20 = .ok (.aload_n 0, 1) := by decide +kernel
theorem d_74_21 : decode (mC 74) 21 = .ok (.dup, 1) := by decide +kernel
theorem d_74_22 : decode (mC 74) 22 = .ok (.getfield 19, 3) := by decide +kernel
theorem d_74_25 : decode (mC 74) 25 = .ok (.iconst 1, 1) := by decide +kernel
theorem d_74_26 : decode (mC 74) 26 = .ok (.iadd, 1) := by decide +kernel
theorem d_74_27 : decode (mC 74) 27 = .ok (.putfield 19, 3) := by decide +kernel
theorem fp_CordLoft_Formula_19 : FP 0 "CordLoft$Formula" 19 2 1 := ⟨⟨_, rfl, by decide, List.mem_of_getElem? (i := 210) (by decide +kernel), rfl⟩, rfl, by decide, by decide +kernel⟩
theorem ml_74 : mL 74 = 2 := by decide +kernel
theorem d_76_0 : decode (mC 76) 0 = .ok (.iload_n 0, 1) := by decide +kernel
theorem d_76_1 : decode (mC 76) 1 = .ok (.lookupswitch 75 #[(37, 73), (42, 73), (43, 71), (45, 71), (47, 73), (137, 67), (138, 69)], 67) := by decide +kernel
theorem d_76_74 : decode (mC 76) 74 = .ok (.iconst 4, 1) := by decide +kernel
theorem ic_4 : Int32.ofInt 4 = 4 := by decide +kernel
theorem d_76_75 : decode (mC 76) 75 = .ok (.ireturn, 1) := by decide +kernel
theorem mr_76 : mR 76 = some .int := by decide +kernel
theorem d_76_72 : decode (mC 76) 72 = .ok (.iconst 3, 1) := by decide +kernel
theorem ic_3 : Int32.ofInt 3 = 3 := by decide +kernel
theorem d_76_73 : decode (mC 76) 73 = .ok (.ireturn, 1) := by decide +kernel
theorem d_76_68 : decode (mC 76) 68 = .ok (.iconst 0, 1) := by decide +kernel
theorem d_76_69 : decode (mC 76) 69 = .ok (.ireturn, 1) := by decide +kernel
theorem d_76_70 : decode (mC 76) 70 = .ok (.iconst 1, 1) := by decide +kernel
theorem d_76_71 : decode (mC 76) 71 = .ok (.ireturn, 1) := by decide +kernel
theorem d_76_76 : decode (mC 76) 76 = .ok (.iconst (-1), 1) := by decide +kernel
theorem ic_m1 : Int32.ofInt (-1) = (-1) := by decide +kernel
theorem d_76_77 : decode (mC 76) 77 = .ok (.ireturn, 1) := by decide +kernel
theorem ml_76 : mL 76 = 1 := by decide +kernel
theorem d_72_37 : decode (mC 72) 37 = .ok (.iload_n 3, 1) := by decide +kernel
theorem d_72_38 : decode (mC 72) 38 = .ok (.bipush 30, 2) := by decide +kernel
theorem bi_30 : (Int8.ofInt 30).toInt32 = 30 := by decide +kernel
theorem d_72_40 : decode (mC 72) 40 = .ok (.if_icmp .ge 65, 3) := by decide +kernel
theorem d_72_43 : decode (mC 72) 43 = .ok (.aload_n 0, 1) := by decide +kernel
theorem d_72_44 : decode (mC 72) 44 = .ok (.getfield 9, 3) := by decide +kernel
theorem cn_72 : (mN 72).cls = "CordLoft$Reader" := by decide +kernel
theorem d_72_47 : decode (mC 72) 47 = .ok (.getfield 36, 3) := by decide +kernel
theorem d_72_50 : decode (mC 72) 50 = .ok (.invokestatic 144, 3) := by decide +kernel
theorem mo_76 : MOK 76 := ⟨List.mem_of_getElem? (i := 779) (by decide +kernel), by decide +kernel, ⟨by decide +kernel, by decide +kernel⟩, List.mem_of_getElem? (i := 91) (by decide +kernel), by decide +kernel⟩
theorem m0_76 : M0K 76 := ⟨by decide +kernel, by decide +kernel⟩
theorem sk_72_144 : SKc 72 144 76 1 := ⟨⟨List.mem_of_getElem? (i := 777) (by decide +kernel), by decide +kernel⟩, List.mem_of_getElem? (i := 778) (by decide +kernel), mo_76, m0_76⟩
theorem d_72_53 : decode (mC 72) 53 = .ok (.iload_n 1, 1) := by decide +kernel
theorem d_72_54 : decode (mC 72) 54 = .ok (.if_icmp .ne 51, 3) := by decide +kernel
theorem d_72_57 : decode (mC 72) 57 = .ok (.aload_n 0, 1) := by decide +kernel
theorem d_72_58 : decode (mC 72) 58 = .ok (.getfield 9, 3) := by decide +kernel
theorem d_72_61 : decode (mC 72) 61 = .ok (.getfield 36, 3) := by decide +kernel
theorem d_72_64 : decode (mC 72) 64 = .ok (.istore 4, 2) := by decide +kernel
theorem ml_72 : mL 72 = 5 := by decide +kernel
theorem d_72_66 : decode (mC 72) 66 = .ok (.aload_n 0, 1) := by decide +kernel
theorem d_72_67 : decode (mC 72) 67 = .ok (.getfield 9, 3) := by decide +kernel
theorem d_72_70 : decode (mC 72) 70 = .ok (.invokevirtual 89, 3) := by decide +kernel
theorem vk_72_89 : VK 72 89 54 0 10 := ⟨⟨List.mem_of_getElem? (i := 716) (by decide +kernel), by decide +kernel⟩, List.mem_of_getElem? (i := 689) (by decide +kernel), mo_54, m0_54, _, rfl, List.mem_of_getElem? (i := 690) (by decide +kernel), by decide⟩
theorem d_72_73 : decode (mC 72) 73 = .ok (.aload_n 0, 1) := by decide +kernel
theorem d_72_74 : decode (mC 72) 74 = .ok (.iload_n 1, 1) := by decide +kernel
theorem d_72_75 : decode (mC 72) 75 = .ok (.iconst 1, 1) := by decide +kernel
theorem d_72_76 : decode (mC 72) 76 = .ok (.iadd, 1) := by decide +kernel
theorem d_72_77 : decode (mC 72) 77 = .ok (.iload_n 2, 1) := by decide +kernel
theorem d_72_78 : decode (mC 72) 78 = .ok (.invokevirtual 60, 3) := by decide +kernel
theorem mo_72 : MOK 72 := ⟨List.mem_of_getElem? (i := 764) (by decide +kernel), by decide +kernel, ⟨by decide +kernel, by decide +kernel⟩, List.mem_of_getElem? (i := 91) (by decide +kernel), by decide +kernel⟩
theorem m0_72 : M0K 72 := ⟨by decide +kernel, by decide +kernel⟩
theorem vk_72_60 : VK 72 60 72 2 5 := ⟨⟨List.mem_of_getElem? (i := 761) (by decide +kernel), by decide +kernel⟩, List.mem_of_getElem? (i := 763) (by decide +kernel), mo_72, m0_72, _, rfl, List.mem_of_getElem? (i := 14) (by decide +kernel), by decide⟩
theorem d_72_81 : decode (mC 72) 81 = .ok (.ifCond .ne 5, 3) := by decide +kernel
theorem d_72_86 : decode (mC 72) 86 = .ok (.aload_n 0, 1) := by decide +kernel
theorem d_72_87 : decode (mC 72) 87 = .ok (.getfield 15, 3) := by decide +kernel
theorem fk_CordLoft_Reader_15 : FK 2 "CordLoft$Reader" 15 5 1 := ⟨⟨_, rfl, by decide, List.mem_of_getElem? (i := 177) (by decide +kernel)⟩, rfl, by decide⟩
theorem d_72_90 : decode (mC 72) 90 = .ok (.getfield 148, 3) := by decide +kernel
theorem fk_CordLoft_Reader_148 : FK 2 "CordLoft$Reader" 148 4 11 := ⟨⟨_, rfl, by decide, List.mem_of_getElem? (i := 264) (by decide +kernel)⟩, rfl, by decide⟩
theorem ft_5_11 : finT 5 11 = some (9, 1) := by decide +kernel
theorem kr_5_9 {p : Nat} (h : kd0 p = 5) : kd0 (p + 9) = 3 := by
  have h1 : p < 138 := kd_138 h (by decide)
  have h2 : ∀ p, p < 138 → kd0 p = 5 → kd0 (p + 9) = 3 := by decide +kernel
  exact h2 p h1 h
theorem lr_5_9 {p : Nat} (h : kd0 p = 5) : ln0 (p + 9) = 5 := by
  have h1 : p < 138 := kd_138 h (by decide)
  have h2 : ∀ p, p < 138 → kd0 p = 5 → ln0 (p + 9) = 5 := by decide +kernel
  exact h2 p h1 h
theorem d_72_93 : decode (mC 72) 93 = .ok (.iload 4, 2) := by decide +kernel
theorem d_72_95 : decode (mC 72) 95 = .ok (.ineg, 1) := by decide +kernel
theorem d_72_96 : decode (mC 72) 96 = .ok (.invokevirtual 152, 3) := by decide +kernel
theorem mo_74 : MOK 74 := ⟨List.mem_of_getElem? (i := 772) (by decide +kernel), by decide +kernel, ⟨by decide +kernel, by decide +kernel⟩, List.mem_of_getElem? (i := 93) (by decide +kernel), by decide +kernel⟩
theorem m0_74 : M0K 74 := ⟨by decide +kernel, by decide +kernel⟩
theorem vk_72_152 : VK 72 152 74 1 2 := ⟨⟨List.mem_of_getElem? (i := 769) (by decide +kernel), by decide +kernel⟩, List.mem_of_getElem? (i := 770) (by decide +kernel), mo_74, m0_74, _, rfl, List.mem_of_getElem? (i := 771) (by decide +kernel), by decide⟩
theorem d_72_99 : decode (mC 72) 99 = .ok (.iinc 3 1, 3) := by decide +kernel
theorem d_72_102 : decode (mC 72) 102 = .ok (.goto (-65), 3) := by decide +kernel
theorem d_72_84 : decode (mC 72) 84 = .ok (.iconst 0, 1) := by decide +kernel
theorem d_72_85 : decode (mC 72) 85 = .ok (.ireturn, 1) := by decide +kernel
theorem mr_72 : mR 72 = some .boolean := by decide +kernel
theorem d_72_0 : decode (mC 72) 0 = .ok (.iload_n 1, 1) := by decide +kernel
theorem d_72_1 : decode (mC 72) 1 = .ok (.iconst 2, 1) := by decide +kernel
theorem d_72_2 : decode (mC 72) 2 = .ok (.if_icmp .ne 9, 3) := by decide +kernel
theorem d_72_11 : decode (mC 72) 11 = .ok (.iload_n 1, 1) := by decide +kernel
theorem d_72_12 : decode (mC 72) 12 = .ok (.iconst 5, 1) := by decide +kernel
theorem ic_5 : Int32.ofInt 5 = 5 := by decide +kernel
theorem d_72_13 : decode (mC 72) 13 = .ok (.if_icmp .lt 9, 3) := by decide +kernel
theorem d_72_22 : decode (mC 72) 22 = .ok (.aload_n 0, 1) := by decide +kernel
theorem d_72_23 : decode (mC 72) 23 = .ok (.iload_n 1, 1) := by decide +kernel
theorem d_72_24 : decode (mC 72) 24 = .ok (.iconst 1, 1) := by decide +kernel
theorem d_72_25 : decode (mC 72) 25 = .ok (.iadd, 1) := by decide +kernel
theorem d_72_26 : decode (mC 72) 26 = .ok (.iload_n 2, 1) := by decide +kernel
theorem d_72_27 : decode (mC 72) 27 = .ok (.invokevirtual 60, 3) := by decide +kernel
theorem d_72_30 : decode (mC 72) 30 = .ok (.ifCond .ne 5, 3) := by decide +kernel
theorem d_72_35 : decode (mC 72) 35 = .ok (.iconst 0, 1) := by decide +kernel
theorem d_72_36 : decode (mC 72) 36 = .ok (.istore_n 3, 1) := by decide +kernel
theorem d_72_105 : decode (mC 72) 105 = .ok (.iconst 1, 1) := by decide +kernel
theorem d_72_106 : decode (mC 72) 106 = .ok (.ireturn, 1) := by decide +kernel
theorem d_72_33 : decode (mC 72) 33 = .ok (.iconst 0, 1) := by decide +kernel
theorem d_72_34 : decode (mC 72) 34 = .ok (.ireturn, 1) := by decide +kernel
theorem d_72_16 : decode (mC 72) 16 = .ok (.aload_n 0, 1) := by decide +kernel
theorem d_72_17 : decode (mC 72) 17 = .ok (.iload_n 2, 1) := by decide +kernel
theorem d_72_18 : decode (mC 72) 18 = .ok (.invokevirtual 139, 3) := by decide +kernel
theorem ml_75 : mL 75 = 5 := by decide +kernel
theorem mo_75 : MOK 75 := ⟨List.mem_of_getElem? (i := 776) (by decide +kernel), by decide +kernel, ⟨by decide +kernel, by decide +kernel⟩, List.mem_of_getElem? (i := 91) (by decide +kernel), by decide +kernel⟩
theorem m0_75 : M0K 75 := ⟨by decide +kernel, by decide +kernel⟩
theorem vk_72_139 : VK 72 139 75 1 5 := ⟨⟨List.mem_of_getElem? (i := 773) (by decide +kernel), by decide +kernel⟩, List.mem_of_getElem? (i := 775) (by decide +kernel), mo_75, m0_75, _, rfl, List.mem_of_getElem? (i := 16) (by decide +kernel), by decide⟩
theorem d_72_21 : decode (mC 72) 21 = .ok (.ireturn, 1) := by decide +kernel
theorem d_72_5 : decode (mC 72) 5 = .ok (.aload_n 0, 1) := by decide +kernel
theorem d_72_6 : decode (mC 72) 6 = .ok (.iload_n 2, 1) := by decide +kernel
theorem d_72_7 : decode (mC 72) 7 = .ok (.invokevirtual 136, 3) := by decide +kernel
theorem ml_73 : mL 73 = 3 := by decide +kernel
theorem mo_73 : MOK 73 := ⟨List.mem_of_getElem? (i := 768) (by decide +kernel), by decide +kernel, ⟨by decide +kernel, by decide +kernel⟩, List.mem_of_getElem? (i := 91) (by decide +kernel), by decide +kernel⟩
theorem m0_73 : M0K 73 := ⟨by decide +kernel, by decide +kernel⟩
theorem vk_72_136 : VK 72 136 73 1 5 := ⟨⟨List.mem_of_getElem? (i := 765) (by decide +kernel), by decide +kernel⟩, List.mem_of_getElem? (i := 767) (by decide +kernel), mo_73, m0_73, _, rfl, List.mem_of_getElem? (i := 15) (by decide +kernel), by decide⟩
theorem d_72_10 : decode (mC 72) 10 = .ok (.ireturn, 1) := by decide +kernel
theorem d_73_98 : decode (mC 73) 98 = .ok (.aload_n 0, 1) := by decide +kernel
theorem d_73_99 : decode (mC 73) 99 = .ok (.getfield 9, 3) := by decide +kernel
theorem cn_73 : (mN 73).cls = "CordLoft$Reader" := by decide +kernel
theorem d_73_102 : decode (mC 73) 102 = .ok (.invokevirtual 89, 3) := by decide +kernel
theorem vk_73_89 : VK 73 89 54 0 10 := ⟨⟨List.mem_of_getElem? (i := 716) (by decide +kernel), by decide +kernel⟩, List.mem_of_getElem? (i := 689) (by decide +kernel), mo_54, m0_54, _, rfl, List.mem_of_getElem? (i := 690) (by decide +kernel), by decide⟩
theorem d_73_105 : decode (mC 73) 105 = .ok (.aload_n 0, 1) := by decide +kernel
theorem d_73_106 : decode (mC 73) 106 = .ok (.iconst 3, 1) := by decide +kernel
theorem d_73_107 : decode (mC 73) 107 = .ok (.iload_n 1, 1) := by decide +kernel
theorem d_73_108 : decode (mC 73) 108 = .ok (.invokevirtual 60, 3) := by decide +kernel
theorem vk_73_60 : VK 73 60 72 2 5 := ⟨⟨List.mem_of_getElem? (i := 761) (by decide +kernel), by decide +kernel⟩, List.mem_of_getElem? (i := 763) (by decide +kernel), mo_72, m0_72, _, rfl, List.mem_of_getElem? (i := 14) (by decide +kernel), by decide⟩
theorem d_73_111 : decode (mC 73) 111 = .ok (.ifCond .ne 5, 3) := by decide +kernel
theorem d_73_116 : decode (mC 73) 116 = .ok (.aload_n 0, 1) := by decide +kernel
theorem d_73_117 : decode (mC 73) 117 = .ok (.getfield 15, 3) := by decide +kernel
theorem d_73_120 : decode (mC 73) 120 = .ok (.getfield 148, 3) := by decide +kernel
theorem d_73_123 : decode (mC 73) 123 = .ok (.iload_n 2, 1) := by decide +kernel
theorem d_73_124 : decode (mC 73) 124 = .ok (.ineg, 1) := by decide +kernel
theorem d_73_125 : decode (mC 73) 125 = .ok (.invokevirtual 152, 3) := by decide +kernel
theorem vk_73_152 : VK 73 152 74 1 2 := ⟨⟨List.mem_of_getElem? (i := 769) (by decide +kernel), by decide +kernel⟩, List.mem_of_getElem? (i := 770) (by decide +kernel), mo_74, m0_74, _, rfl, List.mem_of_getElem? (i := 771) (by decide +kernel), by decide⟩
theorem d_73_128 : decode (mC 73) 128 = .ok (.iconst 1, 1) := by decide +kernel
theorem d_73_129 : decode (mC 73) 129 = .ok (.ireturn, 1) := by decide +kernel
theorem mr_73 : mR 73 = some .boolean := by decide +kernel
theorem d_73_114 : decode (mC 73) 114 = .ok (.iconst 0, 1) := by decide +kernel
theorem d_73_115 : decode (mC 73) 115 = .ok (.ireturn, 1) := by decide +kernel
theorem d_73_0 : decode (mC 73) 0 = .ok (.aload_n 0, 1) := by decide +kernel
theorem d_73_1 : decode (mC 73) 1 = .ok (.getfield 9, 3) := by decide +kernel
theorem d_73_4 : decode (mC 73) 4 = .ok (.getfield 36, 3) := by decide +kernel
theorem d_73_7 : decode (mC 73) 7 = .ok (.sipush 139, 3) := by decide +kernel
theorem si_139 : (Int16.ofInt 139).toInt32 = 139 := by decide +kernel
theorem d_73_10 : decode (mC 73) 10 = .ok (.if_icmp .ne 49, 3) := by decide +kernel
theorem d_73_59 : decode (mC 73) 59 = .ok (.aload_n 0, 1) := by decide +kernel
theorem d_73_60 : decode (mC 73) 60 = .ok (.iconst 3, 1) := by decide +kernel
theorem d_73_61 : decode (mC 73) 61 = .ok (.iload_n 1, 1) := by decide +kernel
theorem d_73_62 : decode (mC 73) 62 = .ok (.invokevirtual 60, 3) := by decide +kernel
theorem d_73_65 : decode (mC 73) 65 = .ok (.ifCond .ne 5, 3) := by decide +kernel
theorem d_73_70 : decode (mC 73) 70 = .ok (.aload_n 0, 1) := by decide +kernel
theorem d_73_71 : decode (mC 73) 71 = .ok (.getfield 9, 3) := by decide +kernel
theorem d_73_74 : decode (mC 73) 74 = .ok (.getfield 36, 3) := by decide +kernel
theorem d_73_77 : decode (mC 73) 77 = .ok (.istore_n 2, 1) := by decide +kernel
theorem d_73_78 : decode (mC 73) 78 = .ok (.iload_n 2, 1) := by decide +kernel
theorem d_73_79 : decode (mC 73) 79 = .ok (.bipush 60, 2) := by decide +kernel
theorem bi_60 : (Int8.ofInt 60).toInt32 = 60 := by decide +kernel
theorem d_73_81 : decode (mC 73) 81 = .ok (.if_icmp .eq 17, 3) := by decide +kernel
theorem d_73_84 : decode (mC 73) 84 = .ok (.iload_n 2, 1) := by decide +kernel
theorem d_73_85 : decode (mC 73) 85 = .ok (.bipush 62, 2) := by decide +kernel
theorem bi_62 : (Int8.ofInt 62).toInt32 = 62 := by decide +kernel
theorem d_73_87 : decode (mC 73) 87 = .ok (.if_icmp .eq 11, 3) := by decide +kernel
theorem d_73_90 : decode (mC 73) 90 = .ok (.iload_n 2, 1) := by decide +kernel
theorem d_73_91 : decode (mC 73) 91 = .ok (.bipush 61, 2) := by decide +kernel
theorem bi_61 : (Int8.ofInt 61).toInt32 = 61 := by decide +kernel
theorem d_73_93 : decode (mC 73) 93 = .ok (.if_icmp .eq 5, 3) := by decide +kernel
theorem d_73_96 : decode (mC 73) 96 = .ok (.iconst 1, 1) := by decide +kernel
theorem d_73_97 : decode (mC 73) 97 = .ok (.ireturn, 1) := by decide +kernel
theorem d_73_68 : decode (mC 73) 68 = .ok (.iconst 0, 1) := by decide +kernel
theorem d_73_69 : decode (mC 73) 69 = .ok (.ireturn, 1) := by decide +kernel
theorem d_73_13 : decode (mC 73) 13 = .ok (.iload_n 1, 1) := by decide +kernel
theorem d_73_14 : decode (mC 73) 14 = .ok (.bipush 7, 2) := by decide +kernel
theorem bi_7 : (Int8.ofInt 7).toInt32 = 7 := by decide +kernel
theorem d_73_16 : decode (mC 73) 16 = .ok (.if_icmp .lt 9, 3) := by decide +kernel
theorem d_73_25 : decode (mC 73) 25 = .ok (.aload_n 0, 1) := by decide +kernel
theorem d_73_26 : decode (mC 73) 26 = .ok (.getfield 9, 3) := by decide +kernel
theorem d_73_29 : decode (mC 73) 29 = .ok (.invokevirtual 89, 3) := by decide +kernel
theorem d_73_32 : decode (mC 73) 32 = .ok (.aload_n 0, 1) := by decide +kernel
theorem d_73_33 : decode (mC 73) 33 = .ok (.iload_n 1, 1) := by decide +kernel
theorem d_73_34 : decode (mC 73) 34 = .ok (.iconst 1, 1) := by decide +kernel
theorem d_73_35 : decode (mC 73) 35 = .ok (.iadd, 1) := by decide +kernel
theorem d_73_36 : decode (mC 73) 36 = .ok (.invokevirtual 136, 3) := by decide +kernel
theorem vk_73_136 : VK 73 136 73 1 5 := ⟨⟨List.mem_of_getElem? (i := 765) (by decide +kernel), by decide +kernel⟩, List.mem_of_getElem? (i := 767) (by decide +kernel), mo_73, m0_73, _, rfl, List.mem_of_getElem? (i := 15) (by decide +kernel), by decide⟩
theorem d_73_39 : decode (mC 73) 39 = .ok (.ifCond .ne 5, 3) := by decide +kernel
theorem d_73_44 : decode (mC 73) 44 = .ok (.aload_n 0, 1) := by decide +kernel
theorem d_73_45 : decode (mC 73) 45 = .ok (.getfield 15, 3) := by decide +kernel
theorem d_73_48 : decode (mC 73) 48 = .ok (.getfield 148, 3) := by decide +kernel
theorem d_73_51 : decode (mC 73) 51 = .ok (.sipush (-139), 3) := by decide +kernel
theorem si_m139 : (Int16.ofInt (-139)).toInt32 = (-139) := by decide +kernel
theorem d_73_54 : decode (mC 73) 54 = .ok (.invokevirtual 152, 3) := by decide +kernel
theorem d_73_57 : decode (mC 73) 57 = .ok (.iconst 1, 1) := by decide +kernel
theorem d_73_58 : decode (mC 73) 58 = .ok (.ireturn, 1) := by decide +kernel
theorem d_73_42 : decode (mC 73) 42 = .ok (.iconst 0, 1) := by decide +kernel
theorem d_73_43 : decode (mC 73) 43 = .ok (.ireturn, 1) := by decide +kernel
theorem d_73_19 : decode (mC 73) 19 = .ok (.aload_n 0, 1) := by decide +kernel
theorem d_73_20 : decode (mC 73) 20 = .ok (.iconst 2, 1) := by decide +kernel
theorem d_73_21 : decode (mC 73) 21 = .ok (.invokevirtual 80, 3) := by decide +kernel
theorem vk_73_80 : VK 73 80 60 1 5 := ⟨⟨List.mem_of_getElem? (i := 712) (by decide +kernel), by decide +kernel⟩, List.mem_of_getElem? (i := 714) (by decide +kernel), mo_60, m0_60, _, rfl, List.mem_of_getElem? (i := 6) (by decide +kernel), by decide⟩
theorem d_73_24 : decode (mC 73) 24 = .ok (.ireturn, 1) := by decide +kernel
theorem d_75_161 : decode (mC 75) 161 = .ok (.invokevirtual 152, 3) := by decide +kernel
theorem vk_75_152 : VK 75 152 74 1 2 := ⟨⟨List.mem_of_getElem? (i := 769) (by decide +kernel), by decide +kernel⟩, List.mem_of_getElem? (i := 770) (by decide +kernel), mo_74, m0_74, _, rfl, List.mem_of_getElem? (i := 771) (by decide +kernel), by decide⟩
theorem d_75_164 : decode (mC 75) 164 = .ok (.aload_n 0, 1) := by decide +kernel
theorem d_75_165 : decode (mC 75) 165 = .ok (.getfield 9, 3) := by decide +kernel
theorem cn_75 : (mN 75).cls = "CordLoft$Reader" := by decide +kernel
theorem d_75_168 : decode (mC 75) 168 = .ok (.invokevirtual 89, 3) := by decide +kernel
theorem vk_75_89 : VK 75 89 54 0 10 := ⟨⟨List.mem_of_getElem? (i := 716) (by decide +kernel), by decide +kernel⟩, List.mem_of_getElem? (i := 689) (by decide +kernel), mo_54, m0_54, _, rfl, List.mem_of_getElem? (i := 690) (by decide +kernel), by decide⟩
theorem d_75_171 : decode (mC 75) 171 = .ok (.iconst 1, 1) := by decide +kernel
theorem d_75_172 : decode (mC 75) 172 = .ok (.ireturn, 1) := by decide +kernel
theorem mr_75 : mR 75 = some .boolean := by decide +kernel
theorem d_75_76 : decode (mC 75) 76 = .ok (.aload_n 0, 1) := by decide +kernel
theorem d_75_77 : decode (mC 75) 77 = .ok (.iconst 2, 1) := by decide +kernel
theorem d_75_78 : decode (mC 75) 78 = .ok (.invokevirtual 80, 3) := by decide +kernel
theorem vk_75_80 : VK 75 80 60 1 5 := ⟨⟨List.mem_of_getElem? (i := 712) (by decide +kernel), by decide +kernel⟩, List.mem_of_getElem? (i := 714) (by decide +kernel), mo_60, m0_60, _, rfl, List.mem_of_getElem? (i := 6) (by decide +kernel), by decide⟩
theorem d_75_81 : decode (mC 75) 81 = .ok (.ireturn, 1) := by decide +kernel
theorem d_75_54 : decode (mC 75) 54 = .ok (.istore 4, 2) := by decide +kernel
theorem d_75_56 : decode (mC 75) 56 = .ok (.iload 4, 2) := by decide +kernel
theorem d_75_58 : decode (mC 75) 58 = .ok (.ifCond .eq 18, 3) := by decide +kernel
theorem d_75_61 : decode (mC 75) 61 = .ok (.aload_n 0, 1) := by decide +kernel
theorem d_75_62 : decode (mC 75) 62 = .ok (.getfield 15, 3) := by decide +kernel
theorem d_75_65 : decode (mC 75) 65 = .ok (.getfield 148, 3) := by decide +kernel
theorem d_75_68 : decode (mC 75) 68 = .ok (.getfield 156, 3) := by decide +kernel
theorem fk_CordLoft_Reader_156 : FK 0 "CordLoft$Reader" 156 2 4 := ⟨⟨_, rfl, by decide, List.mem_of_getElem? (i := 214) (by decide +kernel)⟩, rfl, by decide⟩
theorem d_75_71 : decode (mC 75) 71 = .ok (.bipush 30, 2) := by decide +kernel
theorem d_75_73 : decode (mC 75) 73 = .ok (.if_icmp .lt 9, 3) := by decide +kernel
theorem d_75_82 : decode (mC 75) 82 = .ok (.aload_n 0, 1) := by decide +kernel
theorem d_75_83 : decode (mC 75) 83 = .ok (.getfield 15, 3) := by decide +kernel
theorem d_75_86 : decode (mC 75) 86 = .ok (.getfield 148, 3) := by decide +kernel
theorem d_75_89 : decode (mC 75) 89 = .ok (.dup, 1) := by decide +kernel
theorem d_75_90 : decode (mC 75) 90 = .ok (.getfield 156, 3) := by decide +kernel
theorem d_75_93 : decode (mC 75) 93 = .ok (.iconst 1, 1) := by decide +kernel
theorem d_75_94 : decode (mC 75) 94 = .ok (.iadd, 1) := by decide +kernel
theorem d_75_95 : decode (mC 75) 95 = .ok (.putfield 156, 3) := by decide +kernel
theorem fp_CordLoft_Reader_156 : FP 0 "CordLoft$Reader" 156 2 4 := ⟨⟨_, rfl, by decide, List.mem_of_getElem? (i := 214) (by decide +kernel), rfl⟩, rfl, by decide, by decide +kernel⟩
theorem d_75_98 : decode (mC 75) 98 = .ok (.iload_n 2, 1) := by decide +kernel
theorem d_75_99 : decode (mC 75) 99 = .ok (.bipush 40, 2) := by decide +kernel
theorem bi_40 : (Int8.ofInt 40).toInt32 = 40 := by decide +kernel
theorem d_75_101 : decode (mC 75) 101 = .ok (.if_icmp .ne 36, 3) := by decide +kernel
theorem d_75_137 : decode (mC 75) 137 = .ok (.aload_n 0, 1) := by decide +kernel
theorem d_75_138 : decode (mC 75) 138 = .ok (.getfield 15, 3) := by decide +kernel
theorem d_75_141 : decode (mC 75) 141 = .ok (.getfield 148, 3) := by decide +kernel
theorem d_75_144 : decode (mC 75) 144 = .ok (.iload_n 3, 1) := by decide +kernel
theorem d_75_145 : decode (mC 75) 145 = .ok (.ifCond .eq 8, 3) := by decide +kernel
theorem d_75_153 : decode (mC 75) 153 = .ok (.aload_n 0, 1) := by decide +kernel
theorem d_75_154 : decode (mC 75) 154 = .ok (.getfield 9, 3) := by decide +kernel
theorem d_75_157 : decode (mC 75) 157 = .ok (.getfield 92, 3) := by decide +kernel
theorem fk_CordLoft_Reader_92 : FK 1 "CordLoft$Reader" 92 10 8 := ⟨⟨_, rfl, by decide, List.mem_of_getElem? (i := 148) (by decide +kernel)⟩, rfl, by decide⟩
theorem d_75_160 : decode (mC 75) 160 = .ok (.l2i, 1) := by decide +kernel
theorem d_75_148 : decode (mC 75) 148 = .ok (.iload_n 2, 1) := by decide +kernel
theorem d_75_149 : decode (mC 75) 149 = .ok (.ineg, 1) := by decide +kernel
theorem d_75_150 : decode (mC 75) 150 = .ok (.goto 11, 3) := by decide +kernel
theorem d_75_104 : decode (mC 75) 104 = .ok (.aload_n 0, 1) := by decide +kernel
theorem d_75_105 : decode (mC 75) 105 = .ok (.getfield 9, 3) := by decide +kernel
theorem d_75_108 : decode (mC 75) 108 = .ok (.invokevirtual 89, 3) := by decide +kernel
theorem d_75_111 : decode (mC 75) 111 = .ok (.aload_n 0, 1) := by decide +kernel
theorem d_75_112 : decode (mC 75) 112 = .ok (.iconst 0, 1) := by decide +kernel
theorem d_75_113 : decode (mC 75) 113 = .ok (.iload_n 1, 1) := by decide +kernel
theorem d_75_114 : decode (mC 75) 114 = .ok (.iconst 1, 1) := by decide +kernel
theorem d_75_115 : decode (mC 75) 115 = .ok (.iadd, 1) := by decide +kernel
theorem d_75_116 : decode (mC 75) 116 = .ok (.invokevirtual 60, 3) := by decide +kernel
theorem vk_75_60 : VK 75 60 72 2 5 := ⟨⟨List.mem_of_getElem? (i := 761) (by decide +kernel), by decide +kernel⟩, List.mem_of_getElem? (i := 763) (by decide +kernel), mo_72, m0_72, _, rfl, List.mem_of_getElem? (i := 14) (by decide +kernel), by decide⟩
theorem d_75_119 : decode (mC 75) 119 = .ok (.ifCond .eq 16, 3) := by decide +kernel
theorem d_75_135 : decode (mC 75) 135 = .ok (.iconst 0, 1) := by decide +kernel
theorem d_75_136 : decode (mC 75) 136 = .ok (.ireturn, 1) := by decide +kernel
theorem d_75_122 : decode (mC 75) 122 = .ok (.aload_n 0, 1) := by decide +kernel
theorem d_75_123 : decode (mC 75) 123 = .ok (.bipush 41, 2) := by decide +kernel
theorem bi_41 : (Int8.ofInt 41).toInt32 = 41 := by decide +kernel
theorem d_75_125 : decode (mC 75) 125 = .ok (.invokevirtual 83, 3) := by decide +kernel
theorem mo_67 : MOK 67 := ⟨List.mem_of_getElem? (i := 744) (by decide +kernel), by decide +kernel, ⟨by decide +kernel, by decide +kernel⟩, List.mem_of_getElem? (i := 91) (by decide +kernel), by decide +kernel⟩
theorem m0_67 : M0K 67 := ⟨by decide +kernel, by decide +kernel⟩
theorem vk_75_83 : VK 75 83 67 1 5 := ⟨⟨List.mem_of_getElem? (i := 741) (by decide +kernel), by decide +kernel⟩, List.mem_of_getElem? (i := 743) (by decide +kernel), mo_67, m0_67, _, rfl, List.mem_of_getElem? (i := 9) (by decide +kernel), by decide⟩
theorem d_75_128 : decode (mC 75) 128 = .ok (.ifCond .eq 7, 3) := by decide +kernel
theorem d_75_131 : decode (mC 75) 131 = .ok (.iconst 1, 1) := by decide +kernel
theorem d_75_132 : decode (mC 75) 132 = .ok (.goto 4, 3) := by decide +kernel
theorem d_75_53 : decode (mC 75) 53 = .ok (.iconst 0, 1) := by decide +kernel
theorem d_75_49 : decode (mC 75) 49 = .ok (.iconst 1, 1) := by decide +kernel
theorem d_75_50 : decode (mC 75) 50 = .ok (.goto 4, 3) := by decide +kernel
theorem d_75_27 : decode (mC 75) 27 = .ok (.istore_n 3, 1) := by decide +kernel
theorem d_75_28 : decode (mC 75) 28 = .ok (.iload_n 3, 1) := by decide +kernel
theorem d_75_29 : decode (mC 75) 29 = .ok (.ifCond .ne 20, 3) := by decide +kernel
theorem d_75_32 : decode (mC 75) 32 = .ok (.iload_n 2, 1) := by decide +kernel
theorem d_75_33 : decode (mC 75) 33 = .ok (.iconst 3, 1) := by decide +kernel
theorem d_75_34 : decode (mC 75) 34 = .ok (.if_icmp .eq 15, 3) := by decide +kernel
theorem d_75_37 : decode (mC 75) 37 = .ok (.iload_n 2, 1) := by decide +kernel
theorem d_75_38 : decode (mC 75) 38 = .ok (.bipush 40, 2) := by decide +kernel
theorem d_75_40 : decode (mC 75) 40 = .ok (.if_icmp .ne 13, 3) := by decide +kernel
theorem d_75_43 : decode (mC 75) 43 = .ok (.iload_n 1, 1) := by decide +kernel
theorem d_75_44 : decode (mC 75) 44 = .ok (.bipush 7, 2) := by decide +kernel
theorem d_75_46 : decode (mC 75) 46 = .ok (.if_icmp .ge 7, 3) := by decide +kernel
theorem d_75_26 : decode (mC 75) 26 = .ok (.iconst 0, 1) := by decide +kernel
theorem d_75_0 : decode (mC 75) 0 = .ok (.aload_n 0, 1) := by decide +kernel
theorem d_75_1 : decode (mC 75) 1 = .ok (.getfield 9, 3) := by decide +kernel
theorem d_75_4 : decode (mC 75) 4 = .ok (.getfield 36, 3) := by decide +kernel
theorem d_75_7 : decode (mC 75) 7 = .ok (.istore_n 2, 1) := by decide +kernel
theorem d_75_8 : decode (mC 75) 8 = .ok (.iload_n 2, 1) := by decide +kernel
theorem d_75_9 : decode (mC 75) 9 = .ok (.sipush 140, 3) := by decide +kernel
theorem si_140 : (Int16.ofInt 140).toInt32 = 140 := by decide +kernel
theorem d_75_12 : decode (mC 75) 12 = .ok (.if_icmp .lt 14, 3) := by decide +kernel
theorem d_75_15 : decode (mC 75) 15 = .ok (.iload_n 2, 1) := by decide +kernel
theorem d_75_16 : decode (mC 75) 16 = .ok (.sipush 145, 3) := by decide +kernel
theorem si_145 : (Int16.ofInt 145).toInt32 = 145 := by decide +kernel
theorem d_75_19 : decode (mC 75) 19 = .ok (.if_icmp .gt 7, 3) := by decide +kernel
theorem d_75_22 : decode (mC 75) 22 = .ok (.iconst 1, 1) := by decide +kernel
theorem d_75_23 : decode (mC 75) 23 = .ok (.goto 4, 3) := by decide +kernel
theorem k_1 : kd0 1 = 10 := by decide +kernel
theorem d_14_3 : decode (mC 14) 3 = .ok (.iload_n 2, 1) := by decide +kernel
theorem d_14_4 : decode (mC 14) 4 = .ok (.ifCond .lt 42, 3) := by decide +kernel
theorem d_14_7 : decode (mC 14) 7 = .ok (.aload_n 0, 1) := by decide +kernel
theorem d_14_8 : decode (mC 14) 8 = .ok (.getfield 15, 3) := by decide +kernel
theorem fk_CordLoft_Tape_15 : FK 0 "CordLoft$Tape" 15 9 1 := ⟨⟨_, rfl, by decide, List.mem_of_getElem? (i := 124) (by decide +kernel)⟩, rfl, by decide⟩
theorem cn_14 : (mN 14).cls = "CordLoft$Tape" := by decide +kernel
theorem d_14_11 : decode (mC 14) 11 = .ok (.sipush 1600, 3) := by decide +kernel
theorem si_1600 : (Int16.ofInt 1600).toInt32 = 1600 := by decide +kernel
theorem d_14_14 : decode (mC 14) 14 = .ok (.if_icmp .ge 32, 3) := by decide +kernel
theorem d_14_17 : decode (mC 14) 17 = .ok (.aload_n 0, 1) := by decide +kernel
theorem d_14_18 : decode (mC 14) 18 = .ok (.getfield 11, 3) := by decide +kernel
theorem fk_CordLoft_Tape_11 : FK 2 "CordLoft$Tape" 11 9 0 := ⟨⟨_, rfl, by decide, List.mem_of_getElem? (i := 122) (by decide +kernel)⟩, rfl, by decide⟩
theorem ft_10_0 : finT 10 0 = some (2, 0) := by decide +kernel
theorem k_2 : kd0 2 = 22 := by decide +kernel
theorem l_2 : ln0 2 = 1600 := by decide +kernel
theorem d_14_21 : decode (mC 14) 21 = .ok (.aload_n 0, 1) := by decide +kernel
theorem d_14_22 : decode (mC 14) 22 = .ok (.getfield 15, 3) := by decide +kernel
theorem d_14_25 : decode (mC 14) 25 = .ok (.iload_n 1, 1) := by decide +kernel
theorem d_14_26 : decode (mC 14) 26 = .ok (.iload_n 2, 1) := by decide +kernel
theorem d_14_27 : decode (mC 14) 27 = .ok (.ishr, 1) := by decide +kernel
theorem d_14_28 : decode (mC 14) 28 = .ok (.i2b, 1) := by decide +kernel
theorem d_14_29 : decode (mC 14) 29 = .ok (.bastore, 1) := by decide +kernel
theorem d_14_30 : decode (mC 14) 30 = .ok (.aload_n 0, 1) := by decide +kernel
theorem d_14_31 : decode (mC 14) 31 = .ok (.dup, 1) := by decide +kernel
theorem d_14_32 : decode (mC 14) 32 = .ok (.getfield 15, 3) := by decide +kernel
theorem d_14_35 : decode (mC 14) 35 = .ok (.iconst 1, 1) := by decide +kernel
theorem d_14_36 : decode (mC 14) 36 = .ok (.iadd, 1) := by decide +kernel
theorem d_14_37 : decode (mC 14) 37 = .ok (.putfield 15, 3) := by decide +kernel
theorem fp_CordLoft_Tape_15 : FP 0 "CordLoft$Tape" 15 9 1 := ⟨⟨_, rfl, by decide, List.mem_of_getElem? (i := 124) (by decide +kernel), rfl⟩, rfl, by decide, by decide +kernel⟩
theorem d_14_40 : decode (mC 14) 40 = .ok (.iinc 2 (-8), 3) := by decide +kernel
theorem ic_m8 : Int32.ofInt (-8) = (-8) := by decide +kernel
theorem ml_14 : mL 14 = 3 := by decide +kernel
theorem d_14_43 : decode (mC 14) 43 = .ok (.goto (-40), 3) := by decide +kernel
theorem d_14_0 : decode (mC 14) 0 = .ok (.bipush 24, 2) := by decide +kernel
theorem bi_24 : (Int8.ofInt 24).toInt32 = 24 := by decide +kernel
theorem d_14_2 : decode (mC 14) 2 = .ok (.istore_n 2, 1) := by decide +kernel
theorem d_14_46 : decode (mC 14) 46 = .ok (.return_, 1) := by decide +kernel
theorem mr_14 : mR 14 = none := by decide +kernel
theorem k_0 : kd0 0 = 12 := by decide +kernel
theorem d_13_0 : decode (mC 13) 0 = .ok (.aload_n 0, 1) := by decide +kernel
theorem d_13_1 : decode (mC 13) 1 = .ok (.getfield 10, 3) := by decide +kernel
theorem fk_CordLoft_10 : FK 2 "CordLoft" 10 11 0 := ⟨⟨_, rfl, by decide, List.mem_of_getElem? (i := 483) (by decide +kernel)⟩, rfl, by decide⟩
theorem cn_13 : (mN 13).cls = "CordLoft" := by decide +kernel
theorem ft_12_0 : finT 12 0 = some (1, 0) := by decide +kernel
theorem l_1 : ln0 1 = 2 := by decide +kernel
theorem d_13_4 : decode (mC 13) 4 = .ok (.getfield 95, 3) := by decide +kernel
theorem fk_CordLoft_95 : FK 0 "CordLoft" 95 9 1 := ⟨⟨_, rfl, by decide, List.mem_of_getElem? (i := 123) (by decide +kernel)⟩, rfl, by decide⟩
theorem d_13_7 : decode (mC 13) 7 = .ok (.sipush 1580, 3) := by decide +kernel
theorem si_1580 : (Int16.ofInt 1580).toInt32 = 1580 := by decide +kernel
theorem d_13_10 : decode (mC 13) 10 = .ok (.if_icmp .le 5, 3) := by decide +kernel
theorem d_13_15 : decode (mC 13) 15 = .ok (.aload_n 0, 1) := by decide +kernel
theorem d_13_16 : decode (mC 13) 16 = .ok (.getfield 10, 3) := by decide +kernel
theorem d_13_19 : decode (mC 13) 19 = .ok (.iload_n 1, 1) := by decide +kernel
theorem d_13_20 : decode (mC 13) 20 = .ok (.invokevirtual 98, 3) := by decide +kernel
theorem mo_14 : MOK 14 := ⟨List.mem_of_getElem? (i := 536) (by decide +kernel), by decide +kernel, ⟨by decide +kernel, by decide +kernel⟩, List.mem_of_getElem? (i := 89) (by decide +kernel), by decide +kernel⟩
theorem m0_14 : M0K 14 := ⟨by decide +kernel, by decide +kernel⟩
theorem vk_13_98 : VK 13 98 14 1 9 := ⟨⟨List.mem_of_getElem? (i := 533) (by decide +kernel), by decide +kernel⟩, List.mem_of_getElem? (i := 534) (by decide +kernel), mo_14, m0_14, _, rfl, List.mem_of_getElem? (i := 535) (by decide +kernel), by decide⟩
theorem d_13_23 : decode (mC 13) 23 = .ok (.aload_n 0, 1) := by decide +kernel
theorem d_13_24 : decode (mC 13) 24 = .ok (.getfield 10, 3) := by decide +kernel
theorem d_13_27 : decode (mC 13) 27 = .ok (.iload_n 2, 1) := by decide +kernel
theorem d_13_28 : decode (mC 13) 28 = .ok (.invokevirtual 98, 3) := by decide +kernel
theorem d_13_31 : decode (mC 13) 31 = .ok (.aload_n 0, 1) := by decide +kernel
theorem d_13_32 : decode (mC 13) 32 = .ok (.getfield 10, 3) := by decide +kernel
theorem d_13_35 : decode (mC 13) 35 = .ok (.iload_n 3, 1) := by decide +kernel
theorem d_13_36 : decode (mC 13) 36 = .ok (.invokevirtual 98, 3) := by decide +kernel
theorem d_13_39 : decode (mC 13) 39 = .ok (.aload_n 0, 1) := by decide +kernel
theorem d_13_40 : decode (mC 13) 40 = .ok (.getfield 10, 3) := by decide +kernel
theorem d_13_43 : decode (mC 13) 43 = .ok (.iload 4, 2) := by decide +kernel
theorem d_13_45 : decode (mC 13) 45 = .ok (.invokevirtual 98, 3) := by decide +kernel
theorem d_13_48 : decode (mC 13) 48 = .ok (.aload_n 0, 1) := by decide +kernel
theorem d_13_49 : decode (mC 13) 49 = .ok (.getfield 10, 3) := by decide +kernel
theorem d_13_52 : decode (mC 13) 52 = .ok (.iload 5, 2) := by decide +kernel
theorem d_13_54 : decode (mC 13) 54 = .ok (.invokevirtual 98, 3) := by decide +kernel
theorem d_13_57 : decode (mC 13) 57 = .ok (.aload_n 0, 1) := by decide +kernel
theorem d_13_58 : decode (mC 13) 58 = .ok (.getfield 10, 3) := by decide +kernel
theorem d_13_61 : decode (mC 13) 61 = .ok (.getfield 95, 3) := by decide +kernel
theorem d_13_64 : decode (mC 13) 64 = .ok (.ireturn, 1) := by decide +kernel
theorem mr_13 : mR 13 = some .int := by decide +kernel
theorem d_13_13 : decode (mC 13) 13 = .ok (.iconst (-1), 1) := by decide +kernel
theorem d_13_14 : decode (mC 13) 14 = .ok (.ireturn, 1) := by decide +kernel
theorem ml_13 : mL 13 = 6 := by decide +kernel
theorem d_15_0 : decode (mC 15) 0 = .ok (.iload_n 1, 1) := by decide +kernel
theorem d_15_1 : decode (mC 15) 1 = .ok (.ifCond .lt 14, 3) := by decide +kernel
theorem d_15_15 : decode (mC 15) 15 = .ok (.iconst (-1), 1) := by decide +kernel
theorem d_15_16 : decode (mC 15) 16 = .ok (.ireturn, 1) := by decide +kernel
theorem mr_15 : mR 15 = some .int := by decide +kernel
theorem d_15_4 : decode (mC 15) 4 = .ok (.iload_n 1, 1) := by decide +kernel
theorem d_15_5 : decode (mC 15) 5 = .ok (.aload_n 0, 1) := by decide +kernel
theorem d_15_6 : decode (mC 15) 6 = .ok (.getfield 10, 3) := by decide +kernel
theorem cn_15 : (mN 15).cls = "CordLoft" := by decide +kernel
theorem d_15_9 : decode (mC 15) 9 = .ok (.getfield 95, 3) := by decide +kernel
theorem d_15_12 : decode (mC 15) 12 = .ok (.if_icmp .le 5, 3) := by decide +kernel
theorem d_15_17 : decode (mC 15) 17 = .ok (.aload_n 0, 1) := by decide +kernel
theorem d_15_18 : decode (mC 15) 18 = .ok (.getfield 10, 3) := by decide +kernel
theorem d_15_21 : decode (mC 15) 21 = .ok (.iload_n 1, 1) := by decide +kernel
theorem d_15_22 : decode (mC 15) 22 = .ok (.putfield 95, 3) := by decide +kernel
theorem fp_CordLoft_95 : FP 0 "CordLoft" 95 9 1 := ⟨⟨_, rfl, by decide, List.mem_of_getElem? (i := 123) (by decide +kernel), rfl⟩, rfl, by decide, by decide +kernel⟩
theorem d_15_25 : decode (mC 15) 25 = .ok (.iload_n 1, 1) := by decide +kernel
theorem d_15_26 : decode (mC 15) 26 = .ok (.ireturn, 1) := by decide +kernel
theorem ml_15 : mL 15 = 2 := by decide +kernel
theorem d_19_0 : decode (mC 19) 0 = .ok (.iload_n 1, 1) := by decide +kernel
theorem d_19_1 : decode (mC 19) 1 = .ok (.ifCond .lt 24, 3) := by decide +kernel
theorem d_19_25 : decode (mC 19) 25 = .ok (.iconst (-1), 1) := by decide +kernel
theorem d_19_26 : decode (mC 19) 26 = .ok (.ireturn, 1) := by decide +kernel
theorem mr_19 : mR 19 = some .int := by decide +kernel
theorem d_19_4 : decode (mC 19) 4 = .ok (.iload_n 1, 1) := by decide +kernel
theorem d_19_5 : decode (mC 19) 5 = .ok (.aload_n 0, 1) := by decide +kernel
theorem d_19_6 : decode (mC 19) 6 = .ok (.getfield 15, 3) := by decide +kernel
theorem cn_19 : (mN 19).cls = "CordLoft$Tape" := by decide +kernel
theorem d_19_9 : decode (mC 19) 9 = .ok (.if_icmp .ge 16, 3) := by decide +kernel
theorem d_19_12 : decode (mC 19) 12 = .ok (.aload_n 0, 1) := by decide +kernel
theorem d_19_13 : decode (mC 19) 13 = .ok (.getfield 11, 3) := by decide +kernel
theorem d_19_16 : decode (mC 19) 16 = .ok (.iload_n 1, 1) := by decide +kernel
theorem d_19_17 : decode (mC 19) 17 = .ok (.baload, 1) := by decide +kernel
theorem d_19_18 : decode (mC 19) 18 = .ok (.sipush 255, 3) := by decide +kernel
theorem si_255 : (Int16.ofInt 255).toInt32 = 255 := by decide +kernel
theorem d_19_21 : decode (mC 19) 21 = .ok (.iand, 1) := by decide +kernel
theorem d_19_22 : decode (mC 19) 22 = .ok (.goto 4, 3) := by decide +kernel
theorem ml_19 : mL 19 = 2 := by decide +kernel
theorem d_18_35 : decode (mC 18) 35 = .ok (.aload_n 0, 1) := by decide +kernel
theorem d_18_36 : decode (mC 18) 36 = .ok (.dup, 1) := by decide +kernel
theorem d_18_37 : decode (mC 18) 37 = .ok (.getfield 28, 3) := by decide +kernel
theorem fk_CordLoft_Tokens_28 : FK 0 "CordLoft$Tokens" 28 10 5 := ⟨⟨_, rfl, by decide, List.mem_of_getElem? (i := 142) (by decide +kernel)⟩, rfl, by decide⟩
theorem cn_18 : (mN 18).cls = "CordLoft$Tokens" := by decide +kernel
theorem d_18_40 : decode (mC 18) 40 = .ok (.iconst 1, 1) := by decide +kernel
theorem d_18_41 : decode (mC 18) 41 = .ok (.iadd, 1) := by decide +kernel
theorem d_18_42 : decode (mC 18) 42 = .ok (.putfield 28, 3) := by decide +kernel
theorem fp_CordLoft_Tokens_28 : FP 0 "CordLoft$Tokens" 28 10 5 := ⟨⟨_, rfl, by decide, List.mem_of_getElem? (i := 142) (by decide +kernel), rfl⟩, rfl, by decide, by decide +kernel⟩
theorem d_18_45 : decode (mC 18) 45 = .ok (.iinc 2 1, 3) := by decide +kernel
theorem ml_18 : mL 18 = 3 := by decide +kernel
theorem d_18_48 : decode (mC 18) 48 = .ok (.goto (-46), 3) := by decide +kernel
theorem d_18_2 : decode (mC 18) 2 = .ok (.iload_n 2, 1) := by decide +kernel
theorem d_18_3 : decode (mC 18) 3 = .ok (.sipush 1600, 3) := by decide +kernel
theorem d_18_6 : decode (mC 18) 6 = .ok (.if_icmp .ge 45, 3) := by decide +kernel
theorem d_18_9 : decode (mC 18) 9 = .ok (.aload_n 1, 1) := by decide +kernel
theorem d_18_10 : decode (mC 18) 10 = .ok (.aload_n 0, 1) := by decide +kernel
theorem d_18_11 : decode (mC 18) 11 = .ok (.getfield 28, 3) := by decide +kernel
theorem d_18_14 : decode (mC 18) 14 = .ok (.invokevirtual 55, 3) := by decide +kernel
theorem mo_19 : MOK 19 := ⟨List.mem_of_getElem? (i := 556) (by decide +kernel), by decide +kernel, ⟨by decide +kernel, by decide +kernel⟩, List.mem_of_getElem? (i := 89) (by decide +kernel), by decide +kernel⟩
theorem m0_19 : M0K 19 := ⟨by decide +kernel, by decide +kernel⟩
theorem vk_18_55 : VK 18 55 19 1 9 := ⟨⟨List.mem_of_getElem? (i := 553) (by decide +kernel), by decide +kernel⟩, List.mem_of_getElem? (i := 554) (by decide +kernel), mo_19, m0_19, _, rfl, List.mem_of_getElem? (i := 555) (by decide +kernel), by decide⟩
theorem d_18_17 : decode (mC 18) 17 = .ok (.bipush 32, 2) := by decide +kernel
theorem bi_32 : (Int8.ofInt 32).toInt32 = 32 := by decide +kernel
theorem d_18_19 : decode (mC 18) 19 = .ok (.if_icmp .eq 16, 3) := by decide +kernel
theorem d_18_22 : decode (mC 18) 22 = .ok (.aload_n 1, 1) := by decide +kernel
theorem d_18_23 : decode (mC 18) 23 = .ok (.aload_n 0, 1) := by decide +kernel
theorem d_18_24 : decode (mC 18) 24 = .ok (.getfield 28, 3) := by decide +kernel
theorem d_18_27 : decode (mC 18) 27 = .ok (.invokevirtual 55, 3) := by decide +kernel
theorem d_18_30 : decode (mC 18) 30 = .ok (.bipush 10, 2) := by decide +kernel
theorem bi_10 : (Int8.ofInt 10).toInt32 = 10 := by decide +kernel
theorem d_18_32 : decode (mC 18) 32 = .ok (.if_icmp .ne 19, 3) := by decide +kernel
theorem d_18_0 : decode (mC 18) 0 = .ok (.iconst 0, 1) := by decide +kernel
theorem d_18_1 : decode (mC 18) 1 = .ok (.istore_n 2, 1) := by decide +kernel
theorem d_18_51 : decode (mC 18) 51 = .ok (.return_, 1) := by decide +kernel
theorem mr_18 : mR 18 = none := by decide +kernel
theorem d_21_0 : decode (mC 21) 0 = .ok (.iload_n 0, 1) := by decide +kernel
theorem d_21_1 : decode (mC 21) 1 = .ok (.bipush 97, 2) := by decide +kernel
theorem bi_97 : (Int8.ofInt 97).toInt32 = 97 := by decide +kernel
theorem d_21_3 : decode (mC 21) 3 = .ok (.if_icmp .lt 13, 3) := by decide +kernel
theorem d_21_16 : decode (mC 21) 16 = .ok (.iconst 0, 1) := by decide +kernel
theorem d_21_17 : decode (mC 21) 17 = .ok (.ireturn, 1) := by decide +kernel
theorem mr_21 : mR 21 = some .boolean := by decide +kernel
theorem d_21_6 : decode (mC 21) 6 = .ok (.iload_n 0, 1) := by decide +kernel
theorem d_21_7 : decode (mC 21) 7 = .ok (.bipush 122, 2) := by decide +kernel
theorem bi_122 : (Int8.ofInt 122).toInt32 = 122 := by decide +kernel
theorem d_21_9 : decode (mC 21) 9 = .ok (.if_icmp .gt 7, 3) := by decide +kernel
theorem d_21_12 : decode (mC 21) 12 = .ok (.iconst 1, 1) := by decide +kernel
theorem d_21_13 : decode (mC 21) 13 = .ok (.goto 4, 3) := by decide +kernel
theorem ml_21 : mL 21 = 1 := by decide +kernel
theorem d_25_0 : decode (mC 25) 0 = .ok (.getstatic 38, 3) := by decide +kernel
theorem cn_25 : (mN 25).cls = "java/lang/String" := by decide +kernel
theorem fm_java_lang_String_38 : Cond.fieldLink "java/lang/String" 38 "java/lang/String" "COMPACT_STRINGS" "Z" ∈ lw_tbl := List.mem_of_getElem? (i := 581) (by decide +kernel)
theorem d_25_3 : decode (mC 25) 3 = .ok (.ifCond .eq 14, 3) := by decide +kernel
theorem d_25_17 : decode (mC 25) 17 = .ok (.iconst 0, 1) := by decide +kernel
theorem d_25_18 : decode (mC 25) 18 = .ok (.ireturn, 1) := by decide +kernel
theorem mr_25 : mR 25 = some .boolean := by decide +kernel
theorem d_25_6 : decode (mC 25) 6 = .ok (.aload_n 0, 1) := by decide +kernel
theorem d_25_7 : decode (mC 25) 7 = .ok (.getfield 15, 3) := by decide +kernel
theorem fm_java_lang_String_15 : Cond.fieldLink "java/lang/String" 15 "java/lang/String" "coder" "B" ∈ lw_tbl := List.mem_of_getElem? (i := 2029) (by decide +kernel)
theorem d_25_10 : decode (mC 25) 10 = .ok (.ifCond .ne 7, 3) := by decide +kernel
theorem d_25_13 : decode (mC 25) 13 = .ok (.iconst 1, 1) := by decide +kernel
theorem d_25_14 : decode (mC 25) 14 = .ok (.goto 4, 3) := by decide +kernel
theorem ml_25 : mL 25 = 1 := by decide +kernel
theorem d_28_0 : decode (mC 28) 0 = .ok (.iload_n 0, 1) := by decide +kernel
theorem d_28_1 : decode (mC 28) 1 = .ok (.ifCond .lt 8, 3) := by decide +kernel
theorem d_28_9 : decode (mC 28) 9 = .ok (.aload_n 2, 1) := by decide +kernel
theorem d_28_10 : decode (mC 28) 10 = .ok (.iload_n 0, 1) := by decide +kernel
theorem d_28_11 : decode (mC 28) 11 = .ok (.iload_n 1, 1) := by decide +kernel
theorem d_28_12 : decode (mC 28) 12 = .ok (.invokestatic 95, 3) := by decide +kernel
theorem d_28_4 : decode (mC 28) 4 = .ok (.iload_n 0, 1) := by decide +kernel
theorem d_28_5 : decode (mC 28) 5 = .ok (.iload_n 1, 1) := by decide +kernel
theorem d_28_6 : decode (mC 28) 6 = .ok (.if_icmp .lt 10, 3) := by decide +kernel
theorem d_28_16 : decode (mC 28) 16 = .ok (.iload_n 0, 1) := by decide +kernel
theorem d_28_17 : decode (mC 28) 17 = .ok (.ireturn, 1) := by decide +kernel
theorem mr_28 : mR 28 = some .int := by decide +kernel
theorem ml_28 : mL 28 = 3 := by decide +kernel
theorem d_27_0 : decode (mC 27) 0 = .ok (.iload_n 0, 1) := by decide +kernel
theorem d_27_1 : decode (mC 27) 1 = .ok (.iload_n 1, 1) := by decide +kernel
theorem d_27_2 : decode (mC 27) 2 = .ok (.getstatic 1053, 3) := by decide +kernel
theorem cn_27 : (mN 27).cls = "java/lang/String" := by decide +kernel
theorem fm_java_lang_String_1053 : Cond.fieldLink "java/lang/String" 1053 "jdk/internal/util/Preconditions" "SIOOBE_FORMATTER" "Ljava/util/function/BiFunction;" ∈ lw_tbl := List.mem_of_getElem? (i := 589) (by decide +kernel)
theorem d_27_5 : decode (mC 27) 5 = .ok (.invokestatic 1059, 3) := by decide +kernel
theorem mo_28 : MOK 28 := ⟨List.mem_of_getElem? (i := 593) (by decide +kernel), by decide +kernel, ⟨by decide +kernel, by decide +kernel⟩, List.mem_of_getElem? (i := 103) (by decide +kernel), by decide +kernel⟩
theorem m0_28 : M0K 28 := ⟨by decide +kernel, by decide +kernel⟩
theorem sk_27_1059 : SKc 27 1059 28 3 := ⟨⟨List.mem_of_getElem? (i := 591) (by decide +kernel), by decide +kernel⟩, List.mem_of_getElem? (i := 592) (by decide +kernel), mo_28, m0_28⟩
theorem d_27_8 : decode (mC 27) 8 = .ok (.pop, 1) := by decide +kernel
theorem d_27_9 : decode (mC 27) 9 = .ok (.return_, 1) := by decide +kernel
theorem mr_27 : mR 27 = none := by decide +kernel
theorem ml_27 : mL 27 = 2 := by decide +kernel
theorem d_26_0 : decode (mC 26) 0 = .ok (.iload_n 1, 1) := by decide +kernel
theorem d_26_1 : decode (mC 26) 1 = .ok (.aload_n 0, 1) := by decide +kernel
theorem d_26_2 : decode (mC 26) 2 = .ok (.arraylength, 1) := by decide +kernel
theorem d_26_3 : decode (mC 26) 3 = .ok (.invokestatic 9, 3) := by decide +kernel
theorem mo_27 : MOK 27 := ⟨List.mem_of_getElem? (i := 588) (by decide +kernel), by decide +kernel, ⟨by decide +kernel, by decide +kernel⟩, List.mem_of_getElem? (i := 101) (by decide +kernel), by decide +kernel⟩
theorem m0_27 : M0K 27 := ⟨by decide +kernel, by decide +kernel⟩
theorem sk_26_9 : SKc 26 9 27 2 := ⟨⟨List.mem_of_getElem? (i := 586) (by decide +kernel), by decide +kernel⟩, List.mem_of_getElem? (i := 587) (by decide +kernel), mo_27, m0_27⟩
theorem d_26_6 : decode (mC 26) 6 = .ok (.aload_n 0, 1) := by decide +kernel
theorem d_26_7 : decode (mC 26) 7 = .ok (.iload_n 1, 1) := by decide +kernel
theorem d_26_8 : decode (mC 26) 8 = .ok (.baload, 1) := by decide +kernel
theorem d_26_9 : decode (mC 26) 9 = .ok (.sipush 255, 3) := by decide +kernel
theorem d_26_12 : decode (mC 26) 12 = .ok (.iand, 1) := by decide +kernel
theorem d_26_13 : decode (mC 26) 13 = .ok (.i2c, 1) := by decide +kernel
theorem d_26_14 : decode (mC 26) 14 = .ok (.ireturn, 1) := by decide +kernel
theorem mr_26 : mR 26 = some .char := by decide +kernel
theorem ml_26 : mL 26 = 2 := by decide +kernel
theorem d_24_0 : decode (mC 24) 0 = .ok (.aload_n 0, 1) := by decide +kernel
theorem d_24_1 : decode (mC 24) 1 = .ok (.invokevirtual 492, 3) := by decide +kernel
theorem mo_25 : MOK 25 := ⟨List.mem_of_getElem? (i := 580) (by decide +kernel), by decide +kernel, ⟨by decide +kernel, by decide +kernel⟩, List.mem_of_getElem? (i := 101) (by decide +kernel), by decide +kernel⟩
theorem m0_25 : M0K 25 := ⟨by decide +kernel, by decide +kernel⟩
theorem tk_24_492 : TK 24 492 25 0 := ⟨⟨List.mem_of_getElem? (i := 577) (by decide +kernel), by decide +kernel⟩, List.mem_of_getElem? (i := 578) (by decide +kernel), mo_25, m0_25, List.mem_of_getElem? (i := 579) (by decide +kernel)⟩
theorem d_24_4 : decode (mC 24) 4 = .ok (.ifCond .eq 12, 3) := by decide +kernel
theorem d_24_16 : decode (mC 24) 16 = .ok (.aload_n 0, 1) := by decide +kernel
theorem d_24_17 : decode (mC 24) 17 = .ok (.getfield 9, 3) := by decide +kernel
theorem cn_24 : (mN 24).cls = "java/lang/String" := by decide +kernel
theorem fm_java_lang_String_9 : Cond.fieldLink "java/lang/String" 9 "java/lang/String" "value" "[B" ∈ lw_tbl := List.mem_of_getElem? (i := 2030) (by decide +kernel)
theorem d_24_20 : decode (mC 24) 20 = .ok (.iload_n 1, 1) := by decide +kernel
theorem d_24_21 : decode (mC 24) 21 = .ok (.invokestatic 498, 3) := by decide +kernel
theorem d_24_7 : decode (mC 24) 7 = .ok (.aload_n 0, 1) := by decide +kernel
theorem d_24_8 : decode (mC 24) 8 = .ok (.getfield 9, 3) := by decide +kernel
theorem d_24_11 : decode (mC 24) 11 = .ok (.iload_n 1, 1) := by decide +kernel
theorem d_24_12 : decode (mC 24) 12 = .ok (.invokestatic 495, 3) := by decide +kernel
theorem mo_26 : MOK 26 := ⟨List.mem_of_getElem? (i := 585) (by decide +kernel), by decide +kernel, ⟨by decide +kernel, by decide +kernel⟩, List.mem_of_getElem? (i := 102) (by decide +kernel), by decide +kernel⟩
theorem m0_26 : M0K 26 := ⟨by decide +kernel, by decide +kernel⟩
theorem sk_24_495 : SKc 24 495 26 2 := ⟨⟨List.mem_of_getElem? (i := 583) (by decide +kernel), by decide +kernel⟩, List.mem_of_getElem? (i := 584) (by decide +kernel), mo_26, m0_26⟩
theorem d_24_15 : decode (mC 24) 15 = .ok (.ireturn, 1) := by decide +kernel
theorem mr_24 : mR 24 = some .char := by decide +kernel
theorem ml_24 : mL 24 = 2 := by decide +kernel
theorem d_23_45 : decode (mC 23) 45 = .ok (.istore 6, 2) := by decide +kernel
theorem ml_23 : mL 23 = 7 := by decide +kernel
theorem d_23_47 : decode (mC 23) 47 = .ok (.ldc 85, 2) := by decide +kernel
theorem cn_23 : (mN 23).cls = "CordLoft$Tokens" := by decide +kernel
theorem d_23_49 : decode (mC 23) 49 = .ok (.iload_n 3, 1) := by decide +kernel
theorem d_23_50 : decode (mC 23) 50 = .ok (.bipush 8, 2) := by decide +kernel
theorem bi_8 : (Int8.ofInt 8).toInt32 = 8 := by decide +kernel
theorem d_23_52 : decode (mC 23) 52 = .ok (.imul, 1) := by decide +kernel
theorem d_23_53 : decode (mC 23) 53 = .ok (.iload 5, 2) := by decide +kernel
theorem d_23_55 : decode (mC 23) 55 = .ok (.iadd, 1) := by decide +kernel
theorem d_23_56 : decode (mC 23) 56 = .ok (.invokevirtual 87, 3) := by decide +kernel
theorem mo_24 : MOK 24 := ⟨List.mem_of_getElem? (i := 576) (by decide +kernel), by decide +kernel, ⟨by decide +kernel, by decide +kernel⟩, List.mem_of_getElem? (i := 101) (by decide +kernel), by decide +kernel⟩
theorem m0_24 : M0K 24 := ⟨by decide +kernel, by decide +kernel⟩
theorem tk_23_87 : TK 23 87 24 1 := ⟨⟨List.mem_of_getElem? (i := 573) (by decide +kernel), by decide +kernel⟩, List.mem_of_getElem? (i := 574) (by decide +kernel), mo_24, m0_24, List.mem_of_getElem? (i := 575) (by decide +kernel)⟩
theorem d_23_59 : decode (mC 23) 59 = .ok (.iload 6, 2) := by decide +kernel
theorem d_23_61 : decode (mC 23) 61 = .ok (.if_icmp .ne 7, 3) := by decide +kernel
theorem d_23_68 : decode (mC 23) 68 = .ok (.iconst 0, 1) := by decide +kernel
theorem d_23_69 : decode (mC 23) 69 = .ok (.istore 4, 2) := by decide +kernel
theorem d_23_71 : decode (mC 23) 71 = .ok (.iinc 5 1, 3) := by decide +kernel
theorem d_23_74 : decode (mC 23) 74 = .ok (.goto (-60), 3) := by decide +kernel
theorem d_23_64 : decode (mC 23) 64 = .ok (.iconst 1, 1) := by decide +kernel
theorem d_23_65 : decode (mC 23) 65 = .ok (.goto 4, 3) := by decide +kernel
theorem d_23_14 : decode (mC 23) 14 = .ok (.iload 5, 2) := by decide +kernel
theorem d_23_16 : decode (mC 23) 16 = .ok (.bipush 8, 2) := by decide +kernel
theorem d_23_18 : decode (mC 23) 18 = .ok (.if_icmp .ge 59, 3) := by decide +kernel
theorem d_23_21 : decode (mC 23) 21 = .ok (.iload 4, 2) := by decide +kernel
theorem d_23_23 : decode (mC 23) 23 = .ok (.ifCond .eq 54, 3) := by decide +kernel
theorem d_23_26 : decode (mC 23) 26 = .ok (.iload 5, 2) := by decide +kernel
theorem d_23_28 : decode (mC 23) 28 = .ok (.iload_n 2, 1) := by decide +kernel
theorem d_23_29 : decode (mC 23) 29 = .ok (.if_icmp .ge 14, 3) := by decide +kernel
theorem d_23_43 : decode (mC 23) 43 = .ok (.bipush 32, 2) := by decide +kernel
theorem d_23_32 : decode (mC 23) 32 = .ok (.aload_n 0, 1) := by decide +kernel
theorem d_23_33 : decode (mC 23) 33 = .ok (.iload_n 1, 1) := by decide +kernel
theorem d_23_34 : decode (mC 23) 34 = .ok (.iload 5, 2) := by decide +kernel
theorem d_23_36 : decode (mC 23) 36 = .ok (.iadd, 1) := by decide +kernel
theorem d_23_37 : decode (mC 23) 37 = .ok (.invokevirtual 55, 3) := by decide +kernel
theorem vk_23_55 : VK 23 55 19 1 9 := ⟨⟨List.mem_of_getElem? (i := 553) (by decide +kernel), by decide +kernel⟩, List.mem_of_getElem? (i := 554) (by decide +kernel), mo_19, m0_19, _, rfl, List.mem_of_getElem? (i := 555) (by decide +kernel), by decide⟩
theorem d_23_40 : decode (mC 23) 40 = .ok (.goto 5, 3) := by decide +kernel
theorem d_23_2 : decode (mC 23) 2 = .ok (.iload_n 3, 1) := by decide +kernel
theorem d_23_3 : decode (mC 23) 3 = .ok (.bipush 18, 2) := by decide +kernel
theorem bi_18 : (Int8.ofInt 18).toInt32 = 18 := by decide +kernel
theorem d_23_5 : decode (mC 23) 5 = .ok (.if_icmp .ge 89, 3) := by decide +kernel
theorem d_23_8 : decode (mC 23) 8 = .ok (.iconst 1, 1) := by decide +kernel
theorem d_23_9 : decode (mC 23) 9 = .ok (.istore 4, 2) := by decide +kernel
theorem d_23_11 : decode (mC 23) 11 = .ok (.iconst 0, 1) := by decide +kernel
theorem d_23_12 : decode (mC 23) 12 = .ok (.istore 5, 2) := by decide +kernel
theorem d_23_77 : decode (mC 23) 77 = .ok (.iload 4, 2) := by decide +kernel
theorem d_23_79 : decode (mC 23) 79 = .ok (.ifCond .eq 9, 3) := by decide +kernel
theorem d_23_88 : decode (mC 23) 88 = .ok (.iinc 3 1, 3) := by decide +kernel
theorem d_23_91 : decode (mC 23) 91 = .ok (.goto (-89), 3) := by decide +kernel
theorem d_23_82 : decode (mC 23) 82 = .ok (.sipush 128, 3) := by decide +kernel
theorem si_128 : (Int16.ofInt 128).toInt32 = 128 := by decide +kernel
theorem d_23_85 : decode (mC 23) 85 = .ok (.iload_n 3, 1) := by decide +kernel
theorem d_23_86 : decode (mC 23) 86 = .ok (.iadd, 1) := by decide +kernel
theorem d_23_87 : decode (mC 23) 87 = .ok (.ireturn, 1) := by decide +kernel
theorem mr_23 : mR 23 = some .int := by decide +kernel
theorem d_23_0 : decode (mC 23) 0 = .ok (.iconst 0, 1) := by decide +kernel
theorem d_23_1 : decode (mC 23) 1 = .ok (.istore_n 3, 1) := by decide +kernel
theorem d_23_94 : decode (mC 23) 94 = .ok (.iconst 2, 1) := by decide +kernel
theorem d_23_95 : decode (mC 23) 95 = .ok (.ireturn, 1) := by decide +kernel
theorem d_22_11 : decode (mC 22) 11 = .ok (.iload 6, 2) := by decide +kernel
theorem d_22_13 : decode (mC 22) 13 = .ok (.sipush 1600, 3) := by decide +kernel
theorem d_22_16 : decode (mC 22) 16 = .ok (.if_icmp .ge 56, 3) := by decide +kernel
theorem d_22_19 : decode (mC 22) 19 = .ok (.aload_n 1, 1) := by decide +kernel
theorem d_22_20 : decode (mC 22) 20 = .ok (.aload_n 0, 1) := by decide +kernel
theorem d_22_21 : decode (mC 22) 21 = .ok (.getfield 28, 3) := by decide +kernel
theorem cn_22 : (mN 22).cls = "CordLoft$Tokens" := by decide +kernel
theorem d_22_24 : decode (mC 22) 24 = .ok (.invokevirtual 55, 3) := by decide +kernel
theorem vk_22_55 : VK 22 55 19 1 9 := ⟨⟨List.mem_of_getElem? (i := 553) (by decide +kernel), by decide +kernel⟩, List.mem_of_getElem? (i := 554) (by decide +kernel), mo_19, m0_19, _, rfl, List.mem_of_getElem? (i := 555) (by decide +kernel), by decide⟩
theorem d_22_27 : decode (mC 22) 27 = .ok (.invokestatic 59, 3) := by decide +kernel
theorem mo_21 : MOK 21 := ⟨List.mem_of_getElem? (i := 563) (by decide +kernel), by decide +kernel, ⟨by decide +kernel, by decide +kernel⟩, List.mem_of_getElem? (i := 90) (by decide +kernel), by decide +kernel⟩
theorem m0_21 : M0K 21 := ⟨by decide +kernel, by decide +kernel⟩
theorem sk_22_59 : SKc 22 59 21 1 := ⟨⟨List.mem_of_getElem? (i := 561) (by decide +kernel), by decide +kernel⟩, List.mem_of_getElem? (i := 562) (by decide +kernel), mo_21, m0_21⟩
theorem d_22_30 : decode (mC 22) 30 = .ok (.ifCond .eq 42, 3) := by decide +kernel
theorem d_22_33 : decode (mC 22) 33 = .ok (.lload 4, 2) := by decide +kernel
theorem d_22_35 : decode (mC 22) 35 = .ok (.ldc2_w 79, 3) := by decide +kernel
theorem cl_CordLoft_Tokens_79 : Cond.constantLong "CordLoft$Tokens" 79 32 ∈ lw_tbl := List.mem_of_getElem? (i := 568) (by decide +kernel)
theorem d_22_38 : decode (mC 22) 38 = .ok (.lmul, 1) := by decide +kernel
theorem d_22_39 : decode (mC 22) 39 = .ok (.aload_n 1, 1) := by decide +kernel
theorem d_22_40 : decode (mC 22) 40 = .ok (.aload_n 0, 1) := by decide +kernel
theorem d_22_41 : decode (mC 22) 41 = .ok (.getfield 28, 3) := by decide +kernel
theorem d_22_44 : decode (mC 22) 44 = .ok (.invokevirtual 55, 3) := by decide +kernel
theorem d_22_47 : decode (mC 22) 47 = .ok (.bipush 97, 2) := by decide +kernel
theorem d_22_49 : decode (mC 22) 49 = .ok (.isub, 1) := by decide +kernel
theorem d_22_50 : decode (mC 22) 50 = .ok (.iconst 1, 1) := by decide +kernel
theorem d_22_51 : decode (mC 22) 51 = .ok (.iadd, 1) := by decide +kernel
theorem d_22_52 : decode (mC 22) 52 = .ok (.i2l, 1) := by decide +kernel
theorem d_22_53 : decode (mC 22) 53 = .ok (.ladd, 1) := by decide +kernel
theorem d_22_54 : decode (mC 22) 54 = .ok (.lstore 4, 2) := by decide +kernel
theorem ml_22 : mL 22 = 7 := by decide +kernel
theorem d_22_56 : decode (mC 22) 56 = .ok (.aload_n 0, 1) := by decide +kernel
theorem d_22_57 : decode (mC 22) 57 = .ok (.dup, 1) := by decide +kernel
theorem d_22_58 : decode (mC 22) 58 = .ok (.getfield 28, 3) := by decide +kernel
theorem d_22_61 : decode (mC 22) 61 = .ok (.iconst 1, 1) := by decide +kernel
theorem d_22_62 : decode (mC 22) 62 = .ok (.iadd, 1) := by decide +kernel
theorem d_22_63 : decode (mC 22) 63 = .ok (.putfield 28, 3) := by decide +kernel
theorem d_22_66 : decode (mC 22) 66 = .ok (.iinc 6 1, 3) := by decide +kernel
theorem d_22_69 : decode (mC 22) 69 = .ok (.goto (-58), 3) := by decide +kernel
theorem d_22_0 : decode (mC 22) 0 = .ok (.aload_n 0, 1) := by decide +kernel
theorem d_22_1 : decode (mC 22) 1 = .ok (.getfield 28, 3) := by decide +kernel
theorem d_22_4 : decode (mC 22) 4 = .ok (.istore_n 3, 1) := by decide +kernel
theorem d_22_5 : decode (mC 22) 5 = .ok (.lconst 0, 1) := by decide +kernel
theorem lc_0 : Int64.ofNat (0 : Fin 2).val = 0 := by decide +kernel
theorem d_22_6 : decode (mC 22) 6 = .ok (.lstore 4, 2) := by decide +kernel
theorem d_22_8 : decode (mC 22) 8 = .ok (.iconst 0, 1) := by decide +kernel
theorem d_22_9 : decode (mC 22) 9 = .ok (.istore 6, 2) := by decide +kernel
theorem d_22_72 : decode (mC 22) 72 = .ok (.aload_n 0, 1) := by decide +kernel
theorem d_22_73 : decode (mC 22) 73 = .ok (.getfield 20, 3) := by decide +kernel
theorem d_22_76 : decode (mC 22) 76 = .ok (.iload_n 2, 1) := by decide +kernel
theorem d_22_77 : decode (mC 22) 77 = .ok (.lload 4, 2) := by decide +kernel
theorem d_22_79 : decode (mC 22) 79 = .ok (.lastore, 1) := by decide +kernel
theorem d_22_80 : decode (mC 22) 80 = .ok (.aload_n 0, 1) := by decide +kernel
theorem d_22_81 : decode (mC 22) 81 = .ok (.getfield 28, 3) := by decide +kernel
theorem d_22_84 : decode (mC 22) 84 = .ok (.iload_n 3, 1) := by decide +kernel
theorem d_22_85 : decode (mC 22) 85 = .ok (.isub, 1) := by decide +kernel
theorem d_22_86 : decode (mC 22) 86 = .ok (.bipush 8, 2) := by decide +kernel
theorem d_22_88 : decode (mC 22) 88 = .ok (.if_icmp .le 7, 3) := by decide +kernel
theorem d_22_95 : decode (mC 22) 95 = .ok (.aload_n 1, 1) := by decide +kernel
theorem d_22_96 : decode (mC 22) 96 = .ok (.iload_n 3, 1) := by decide +kernel
theorem d_22_97 : decode (mC 22) 97 = .ok (.aload_n 0, 1) := by decide +kernel
theorem d_22_98 : decode (mC 22) 98 = .ok (.getfield 28, 3) := by decide +kernel
theorem d_22_101 : decode (mC 22) 101 = .ok (.iload_n 3, 1) := by decide +kernel
theorem d_22_102 : decode (mC 22) 102 = .ok (.isub, 1) := by decide +kernel
theorem d_22_103 : decode (mC 22) 103 = .ok (.invokestatic 81, 3) := by decide +kernel
theorem mo_23 : MOK 23 := ⟨List.mem_of_getElem? (i := 571) (by decide +kernel), by decide +kernel, ⟨by decide +kernel, by decide +kernel⟩, List.mem_of_getElem? (i := 90) (by decide +kernel), by decide +kernel⟩
theorem m0_23 : M0K 23 := ⟨by decide +kernel, by decide +kernel⟩
theorem sk_22_81 : SKc 22 81 23 3 := ⟨⟨List.mem_of_getElem? (i := 569) (by decide +kernel), by decide +kernel⟩, List.mem_of_getElem? (i := 570) (by decide +kernel), mo_23, m0_23⟩
theorem d_22_106 : decode (mC 22) 106 = .ok (.ireturn, 1) := by decide +kernel
theorem mr_22 : mR 22 = some .int := by decide +kernel
theorem d_22_91 : decode (mC 22) 91 = .ok (.iconst 1, 1) := by decide +kernel
theorem d_22_92 : decode (mC 22) 92 = .ok (.goto 14, 3) := by decide +kernel
theorem d_33_0 : decode (mC 33) 0 = .ok (.iload_n 0, 1) := by decide +kernel
theorem d_33_1 : decode (mC 33) 1 = .ok (.bipush 48, 2) := by decide +kernel
theorem bi_48 : (Int8.ofInt 48).toInt32 = 48 := by decide +kernel
theorem d_33_3 : decode (mC 33) 3 = .ok (.if_icmp .lt 13, 3) := by decide +kernel
theorem d_33_16 : decode (mC 33) 16 = .ok (.iconst 0, 1) := by decide +kernel
theorem d_33_17 : decode (mC 33) 17 = .ok (.ireturn, 1) := by decide +kernel
theorem mr_33 : mR 33 = some .boolean := by decide +kernel
theorem d_33_6 : decode (mC 33) 6 = .ok (.iload_n 0, 1) := by decide +kernel
theorem d_33_7 : decode (mC 33) 7 = .ok (.bipush 57, 2) := by decide +kernel
theorem bi_57 : (Int8.ofInt 57).toInt32 = 57 := by decide +kernel
theorem d_33_9 : decode (mC 33) 9 = .ok (.if_icmp .gt 7, 3) := by decide +kernel
theorem d_33_12 : decode (mC 33) 12 = .ok (.iconst 1, 1) := by decide +kernel
theorem d_33_13 : decode (mC 33) 13 = .ok (.goto 4, 3) := by decide +kernel
theorem ml_33 : mL 33 = 1 := by decide +kernel
theorem d_34_102 : decode (mC 34) 102 = .ok (.iconst 1, 1) := by decide +kernel
theorem d_34_103 : decode (mC 34) 103 = .ok (.goto 4, 3) := by decide +kernel
theorem d_34_107 : decode (mC 34) 107 = .ok (.ireturn, 1) := by decide +kernel
theorem mr_34 : mR 34 = some .int := by decide +kernel
theorem d_34_11 : decode (mC 34) 11 = .ok (.iload 6, 2) := by decide +kernel
theorem d_34_13 : decode (mC 34) 13 = .ok (.sipush 1600, 3) := by decide +kernel
theorem d_34_16 : decode (mC 34) 16 = .ok (.if_icmp .ge 54, 3) := by decide +kernel
theorem d_34_19 : decode (mC 34) 19 = .ok (.aload_n 1, 1) := by decide +kernel
theorem d_34_20 : decode (mC 34) 20 = .ok (.aload_n 0, 1) := by decide +kernel
theorem d_34_21 : decode (mC 34) 21 = .ok (.getfield 28, 3) := by decide +kernel
theorem cn_34 : (mN 34).cls = "CordLoft$Tokens" := by decide +kernel
theorem d_34_24 : decode (mC 34) 24 = .ok (.invokevirtual 55, 3) := by decide +kernel
theorem vk_34_55 : VK 34 55 19 1 9 := ⟨⟨List.mem_of_getElem? (i := 553) (by decide +kernel), by decide +kernel⟩, List.mem_of_getElem? (i := 554) (by decide +kernel), mo_19, m0_19, _, rfl, List.mem_of_getElem? (i := 555) (by decide +kernel), by decide⟩
theorem d_34_27 : decode (mC 34) 27 = .ok (.invokestatic 66, 3) := by decide +kernel
theorem mo_33 : MOK 33 := ⟨List.mem_of_getElem? (i := 615) (by decide +kernel), by decide +kernel, ⟨by decide +kernel, by decide +kernel⟩, List.mem_of_getElem? (i := 90) (by decide +kernel), by decide +kernel⟩
theorem m0_33 : M0K 33 := ⟨by decide +kernel, by decide +kernel⟩
theorem sk_34_66 : SKc 34 66 33 1 := ⟨⟨List.mem_of_getElem? (i := 613) (by decide +kernel), by decide +kernel⟩, List.mem_of_getElem? (i := 614) (by decide +kernel), mo_33, m0_33⟩
theorem d_34_30 : decode (mC 34) 30 = .ok (.ifCond .eq 40, 3) := by decide +kernel
theorem d_34_33 : decode (mC 34) 33 = .ok (.lload 4, 2) := by decide +kernel
theorem d_34_35 : decode (mC 34) 35 = .ok (.ldc2_w 91, 3) := by decide +kernel
theorem cl_CordLoft_Tokens_91 : Cond.constantLong "CordLoft$Tokens" 91 10 ∈ lw_tbl := List.mem_of_getElem? (i := 620) (by decide +kernel)
theorem d_34_38 : decode (mC 34) 38 = .ok (.lmul, 1) := by decide +kernel
theorem d_34_39 : decode (mC 34) 39 = .ok (.aload_n 1, 1) := by decide +kernel
theorem d_34_40 : decode (mC 34) 40 = .ok (.aload_n 0, 1) := by decide +kernel
theorem d_34_41 : decode (mC 34) 41 = .ok (.getfield 28, 3) := by decide +kernel
theorem d_34_44 : decode (mC 34) 44 = .ok (.invokevirtual 55, 3) := by decide +kernel
theorem d_34_47 : decode (mC 34) 47 = .ok (.bipush 48, 2) := by decide +kernel
theorem d_34_49 : decode (mC 34) 49 = .ok (.isub, 1) := by decide +kernel
theorem d_34_50 : decode (mC 34) 50 = .ok (.i2l, 1) := by decide +kernel
theorem d_34_51 : decode (mC 34) 51 = .ok (.ladd, 1) := by decide +kernel
theorem d_34_52 : decode (mC 34) 52 = .ok (.lstore 4, 2) := by decide +kernel
theorem ml_34 : mL 34 = 7 := by decide +kernel
theorem d_34_54 : decode (mC 34) 54 = .ok (.aload_n 0, 1) := by decide +kernel
theorem d_34_55 : decode (mC 34) 55 = .ok (.dup, 1) := by decide +kernel
theorem d_34_56 : decode (mC 34) 56 = .ok (.getfield 28, 3) := by decide +kernel
theorem d_34_59 : decode (mC 34) 59 = .ok (.iconst 1, 1) := by decide +kernel
theorem d_34_60 : decode (mC 34) 60 = .ok (.iadd, 1) := by decide +kernel
theorem d_34_61 : decode (mC 34) 61 = .ok (.putfield 28, 3) := by decide +kernel
theorem d_34_64 : decode (mC 34) 64 = .ok (.iinc 6 1, 3) := by decide +kernel
theorem d_34_67 : decode (mC 34) 67 = .ok (.goto (-56), 3) := by decide +kernel
theorem d_34_0 : decode (mC 34) 0 = .ok (.aload_n 0, 1) := by decide +kernel
theorem d_34_1 : decode (mC 34) 1 = .ok (.getfield 28, 3) := by decide +kernel
theorem d_34_4 : decode (mC 34) 4 = .ok (.istore_n 3, 1) := by decide +kernel
theorem d_34_5 : decode (mC 34) 5 = .ok (.lconst 0, 1) := by decide +kernel
theorem d_34_6 : decode (mC 34) 6 = .ok (.lstore 4, 2) := by decide +kernel
theorem d_34_8 : decode (mC 34) 8 = .ok (.iconst 0, 1) := by decide +kernel
theorem d_34_9 : decode (mC 34) 9 = .ok (.istore 6, 2) := by decide +kernel
theorem d_34_70 : decode (mC 34) 70 = .ok (.aload_n 0, 1) := by decide +kernel
theorem d_34_71 : decode (mC 34) 71 = .ok (.getfield 20, 3) := by decide +kernel
theorem d_34_74 : decode (mC 34) 74 = .ok (.iload_n 2, 1) := by decide +kernel
theorem d_34_75 : decode (mC 34) 75 = .ok (.lload 4, 2) := by decide +kernel
theorem d_34_77 : decode (mC 34) 77 = .ok (.lastore, 1) := by decide +kernel
theorem d_34_78 : decode (mC 34) 78 = .ok (.aload_n 0, 1) := by decide +kernel
theorem d_34_79 : decode (mC 34) 79 = .ok (.getfield 28, 3) := by decide +kernel
theorem d_34_82 : decode (mC 34) 82 = .ok (.iload_n 3, 1) := by decide +kernel
theorem d_34_83 : decode (mC 34) 83 = .ok (.isub, 1) := by decide +kernel
theorem d_34_84 : decode (mC 34) 84 = .ok (.iconst 4, 1) := by decide +kernel
theorem d_34_85 : decode (mC 34) 85 = .ok (.if_icmp .gt 17, 3) := by decide +kernel
theorem d_34_88 : decode (mC 34) 88 = .ok (.aload_n 1, 1) := by decide +kernel
theorem d_34_89 : decode (mC 34) 89 = .ok (.aload_n 0, 1) := by decide +kernel
theorem d_34_90 : decode (mC 34) 90 = .ok (.getfield 28, 3) := by decide +kernel
theorem d_34_93 : decode (mC 34) 93 = .ok (.invokevirtual 55, 3) := by decide +kernel
theorem d_34_96 : decode (mC 34) 96 = .ok (.invokestatic 59, 3) := by decide +kernel
theorem sk_34_59 : SKc 34 59 21 1 := ⟨⟨List.mem_of_getElem? (i := 561) (by decide +kernel), by decide +kernel⟩, List.mem_of_getElem? (i := 562) (by decide +kernel), mo_21, m0_21⟩
theorem d_34_99 : decode (mC 34) 99 = .ok (.ifCond .eq 7, 3) := by decide +kernel
theorem d_34_106 : decode (mC 34) 106 = .ok (.iconst 3, 1) := by decide +kernel
theorem d_38_0 : decode (mC 38) 0 = .ok (.getstatic 38, 3) := by decide +kernel
theorem cn_38 : (mN 38).cls = "java/lang/String" := by decide +kernel
theorem d_38_3 : decode (mC 38) 3 = .ok (.ifCond .eq 10, 3) := by decide +kernel
theorem d_38_13 : decode (mC 38) 13 = .ok (.iconst 1, 1) := by decide +kernel
theorem d_38_14 : decode (mC 38) 14 = .ok (.ireturn, 1) := by decide +kernel
theorem mr_38 : mR 38 = some .byte := by decide +kernel
theorem d_38_6 : decode (mC 38) 6 = .ok (.aload_n 0, 1) := by decide +kernel
theorem d_38_7 : decode (mC 38) 7 = .ok (.getfield 15, 3) := by decide +kernel
theorem d_38_10 : decode (mC 38) 10 = .ok (.goto 4, 3) := by decide +kernel
theorem ml_38 : mL 38 = 1 := by decide +kernel
theorem d_37_0 : decode (mC 37) 0 = .ok (.aload_n 0, 1) := by decide +kernel
theorem d_37_1 : decode (mC 37) 1 = .ok (.getfield 9, 3) := by decide +kernel
theorem cn_37 : (mN 37).cls = "java/lang/String" := by decide +kernel
theorem d_37_4 : decode (mC 37) 4 = .ok (.arraylength, 1) := by decide +kernel
theorem d_37_5 : decode (mC 37) 5 = .ok (.aload_n 0, 1) := by decide +kernel
theorem d_37_6 : decode (mC 37) 6 = .ok (.invokevirtual 335, 3) := by decide +kernel
theorem mo_38 : MOK 38 := ⟨List.mem_of_getElem? (i := 637) (by decide +kernel), by decide +kernel, ⟨by decide +kernel, by decide +kernel⟩, List.mem_of_getElem? (i := 101) (by decide +kernel), by decide +kernel⟩
theorem m0_38 : M0K 38 := ⟨by decide +kernel, by decide +kernel⟩
theorem tk_37_335 : TK 37 335 38 0 := ⟨⟨List.mem_of_getElem? (i := 634) (by decide +kernel), by decide +kernel⟩, List.mem_of_getElem? (i := 635) (by decide +kernel), mo_38, m0_38, List.mem_of_getElem? (i := 636) (by decide +kernel)⟩
theorem d_37_9 : decode (mC 37) 9 = .ok (.ishr, 1) := by decide +kernel
theorem d_37_10 : decode (mC 37) 10 = .ok (.ireturn, 1) := by decide +kernel
theorem mr_37 : mR 37 = some .int := by decide +kernel
theorem ml_37 : mL 37 = 1 := by decide +kernel
theorem d_40_0 : decode (mC 40) 0 = .ok (.iload_n 0, 1) := by decide +kernel
theorem d_40_1 : decode (mC 40) 1 = .ok (.ifCond .lt 14, 3) := by decide +kernel
theorem d_40_15 : decode (mC 40) 15 = .ok (.iconst 0, 1) := by decide +kernel
theorem d_40_16 : decode (mC 40) 16 = .ok (.ireturn, 1) := by decide +kernel
theorem mr_40 : mR 40 = some .boolean := by decide +kernel
theorem d_40_4 : decode (mC 40) 4 = .ok (.iload_n 0, 1) := by decide +kernel
theorem d_40_5 : decode (mC 40) 5 = .ok (.sipush 255, 3) := by decide +kernel
theorem d_40_8 : decode (mC 40) 8 = .ok (.if_icmp .gt 7, 3) := by decide +kernel
theorem d_40_11 : decode (mC 40) 11 = .ok (.iconst 1, 1) := by decide +kernel
theorem d_40_12 : decode (mC 40) 12 = .ok (.goto 4, 3) := by decide +kernel
theorem ml_40 : mL 40 = 1 := by decide +kernel
theorem d_43_7 : decode (mC 43) 7 = .ok (.iload 5, 2) := by decide +kernel
theorem d_43_9 : decode (mC 43) 9 = .ok (.iload_n 3, 1) := by decide +kernel
theorem d_43_10 : decode (mC 43) 10 = .ok (.if_icmp .ge 21, 3) := by decide +kernel
theorem d_43_13 : decode (mC 43) 13 = .ok (.aload_n 0, 1) := by decide +kernel
theorem d_43_14 : decode (mC 43) 14 = .ok (.iload 5, 2) := by decide +kernel
theorem d_43_16 : decode (mC 43) 16 = .ok (.baload, 1) := by decide +kernel
theorem d_43_17 : decode (mC 43) 17 = .ok (.iload 4, 2) := by decide +kernel
theorem d_43_19 : decode (mC 43) 19 = .ok (.if_icmp .ne 6, 3) := by decide +kernel
theorem d_43_25 : decode (mC 43) 25 = .ok (.iinc 5 1, 3) := by decide +kernel
theorem ml_43 : mL 43 = 6 := by decide +kernel
theorem d_43_28 : decode (mC 43) 28 = .ok (.goto (-21), 3) := by decide +kernel
theorem d_43_22 : decode (mC 43) 22 = .ok (.iload 5, 2) := by decide +kernel
theorem d_43_24 : decode (mC 43) 24 = .ok (.ireturn, 1) := by decide +kernel
theorem mr_43 : mR 43 = some .int := by decide +kernel
theorem d_43_0 : decode (mC 43) 0 = .ok (.iload_n 1, 1) := by decide +kernel
theorem d_43_1 : decode (mC 43) 1 = .ok (.i2b, 1) := by decide +kernel
theorem d_43_2 : decode (mC 43) 2 = .ok (.istore 4, 2) := by decide +kernel
theorem d_43_4 : decode (mC 43) 4 = .ok (.iload_n 2, 1) := by decide +kernel
theorem d_43_5 : decode (mC 43) 5 = .ok (.istore 5, 2) := by decide +kernel
theorem d_43_31 : decode (mC 43) 31 = .ok (.iconst (-1), 1) := by decide +kernel
theorem d_43_32 : decode (mC 43) 32 = .ok (.ireturn, 1) := by decide +kernel
theorem d_39_0 : decode (mC 39) 0 = .ok (.iload_n 1, 1) := by decide +kernel
theorem d_39_1 : decode (mC 39) 1 = .ok (.invokestatic 88, 3) := by decide +kernel
theorem mo_40 : MOK 40 := ⟨List.mem_of_getElem? (i := 643) (by decide +kernel), by decide +kernel, ⟨by decide +kernel, by decide +kernel⟩, List.mem_of_getElem? (i := 102) (by decide +kernel), by decide +kernel⟩
theorem m0_40 : M0K 40 := ⟨by decide +kernel, by decide +kernel⟩
theorem sk_39_88 : SKc 39 88 40 1 := ⟨⟨List.mem_of_getElem? (i := 641) (by decide +kernel), by decide +kernel⟩, List.mem_of_getElem? (i := 642) (by decide +kernel), mo_40, m0_40⟩
theorem d_39_4 : decode (mC 39) 4 = .ok (.ifCond .ne 5, 3) := by decide +kernel
theorem d_39_9 : decode (mC 39) 9 = .ok (.iload_n 2, 1) := by decide +kernel
theorem d_39_10 : decode (mC 39) 10 = .ok (.iconst 0, 1) := by decide +kernel
theorem d_39_11 : decode (mC 39) 11 = .ok (.invokestatic 92, 3) := by decide +kernel
theorem mk_java_lang_StringLatin1_92 : Cond.methodLink "java/lang/StringLatin1" 92 Lib.Math.max.name ∈ lw_tbl := List.mem_of_getElem? (i := 644) (by decide +kernel)
theorem cn_39 : (mN 39).cls = "java/lang/StringLatin1" := by decide +kernel
theorem d_39_14 : decode (mC 39) 14 = .ok (.istore_n 2, 1) := by decide +kernel
theorem ml_39 : mL 39 = 4 := by decide +kernel
theorem d_39_15 : decode (mC 39) 15 = .ok (.iload_n 3, 1) := by decide +kernel
theorem d_39_16 : decode (mC 39) 16 = .ok (.aload_n 0, 1) := by decide +kernel
theorem d_39_17 : decode (mC 39) 17 = .ok (.arraylength, 1) := by decide +kernel
theorem d_39_18 : decode (mC 39) 18 = .ok (.invokestatic 38, 3) := by decide +kernel
theorem mk_java_lang_StringLatin1_38 : Cond.methodLink "java/lang/StringLatin1" 38 Lib.Math.min.name ∈ lw_tbl := List.mem_of_getElem? (i := 647) (by decide +kernel)
theorem d_39_21 : decode (mC 39) 21 = .ok (.istore_n 3, 1) := by decide +kernel
theorem d_39_22 : decode (mC 39) 22 = .ok (.iload_n 2, 1) := by decide +kernel
theorem d_39_23 : decode (mC 39) 23 = .ok (.iload_n 3, 1) := by decide +kernel
theorem d_39_24 : decode (mC 39) 24 = .ok (.if_icmp .lt 5, 3) := by decide +kernel
theorem d_39_29 : decode (mC 39) 29 = .ok (.aload_n 0, 1) := by decide +kernel
theorem d_39_30 : decode (mC 39) 30 = .ok (.iload_n 1, 1) := by decide +kernel
theorem d_39_31 : decode (mC 39) 31 = .ok (.iload_n 2, 1) := by decide +kernel
theorem d_39_32 : decode (mC 39) 32 = .ok (.iload_n 3, 1) := by decide +kernel
theorem d_39_33 : decode (mC 39) 33 = .ok (.invokestatic 95, 3) := by decide +kernel
theorem mo_43 : MOK 43 := ⟨List.mem_of_getElem? (i := 652) (by decide +kernel), by decide +kernel, ⟨by decide +kernel, by decide +kernel⟩, List.mem_of_getElem? (i := 102) (by decide +kernel), by decide +kernel⟩
theorem m0_43 : M0K 43 := ⟨by decide +kernel, by decide +kernel⟩
theorem sk_39_95 : SKc 39 95 43 4 := ⟨⟨List.mem_of_getElem? (i := 650) (by decide +kernel), by decide +kernel⟩, List.mem_of_getElem? (i := 651) (by decide +kernel), mo_43, m0_43⟩
theorem d_39_36 : decode (mC 39) 36 = .ok (.ireturn, 1) := by decide +kernel
theorem mr_39 : mR 39 = some .int := by decide +kernel
theorem d_39_27 : decode (mC 39) 27 = .ok (.iconst (-1), 1) := by decide +kernel
theorem d_39_28 : decode (mC 39) 28 = .ok (.ireturn, 1) := by decide +kernel
theorem d_39_7 : decode (mC 39) 7 = .ok (.iconst (-1), 1) := by decide +kernel
theorem d_39_8 : decode (mC 39) 8 = .ok (.ireturn, 1) := by decide +kernel
theorem d_36_0 : decode (mC 36) 0 = .ok (.aload_n 0, 1) := by decide +kernel
theorem d_36_1 : decode (mC 36) 1 = .ok (.invokevirtual 492, 3) := by decide +kernel
theorem tk_36_492 : TK 36 492 25 0 := ⟨⟨List.mem_of_getElem? (i := 577) (by decide +kernel), by decide +kernel⟩, List.mem_of_getElem? (i := 578) (by decide +kernel), mo_25, m0_25, List.mem_of_getElem? (i := 579) (by decide +kernel)⟩
theorem d_36_4 : decode (mC 36) 4 = .ok (.ifCond .eq 19, 3) := by decide +kernel
theorem d_36_23 : decode (mC 36) 23 = .ok (.aload_n 0, 1) := by decide +kernel
theorem d_36_24 : decode (mC 36) 24 = .ok (.getfield 9, 3) := by decide +kernel
theorem cn_36 : (mN 36).cls = "java/lang/String" := by decide +kernel
theorem d_36_27 : decode (mC 36) 27 = .ok (.iload_n 1, 1) := by decide +kernel
theorem d_36_28 : decode (mC 36) 28 = .ok (.iload_n 2, 1) := by decide +kernel
theorem d_36_29 : decode (mC 36) 29 = .ok (.aload_n 0, 1) := by decide +kernel
theorem d_36_30 : decode (mC 36) 30 = .ok (.invokevirtual 505, 3) := by decide +kernel
theorem mo_37 : MOK 37 := ⟨List.mem_of_getElem? (i := 633) (by decide +kernel), by decide +kernel, ⟨by decide +kernel, by decide +kernel⟩, List.mem_of_getElem? (i := 101) (by decide +kernel), by decide +kernel⟩
theorem m0_37 : M0K 37 := ⟨by decide +kernel, by decide +kernel⟩
theorem tk_36_505 : TK 36 505 37 0 := ⟨⟨List.mem_of_getElem? (i := 630) (by decide +kernel), by decide +kernel⟩, List.mem_of_getElem? (i := 631) (by decide +kernel), mo_37, m0_37, List.mem_of_getElem? (i := 632) (by decide +kernel)⟩
theorem d_36_33 : decode (mC 36) 33 = .ok (.invokestatic 640, 3) := by decide +kernel
theorem d_36_7 : decode (mC 36) 7 = .ok (.aload_n 0, 1) := by decide +kernel
theorem d_36_8 : decode (mC 36) 8 = .ok (.getfield 9, 3) := by decide +kernel
theorem d_36_11 : decode (mC 36) 11 = .ok (.iload_n 1, 1) := by decide +kernel
theorem d_36_12 : decode (mC 36) 12 = .ok (.iload_n 2, 1) := by decide +kernel
theorem d_36_13 : decode (mC 36) 13 = .ok (.aload_n 0, 1) := by decide +kernel
theorem d_36_14 : decode (mC 36) 14 = .ok (.invokevirtual 505, 3) := by decide +kernel
theorem d_36_17 : decode (mC 36) 17 = .ok (.invokestatic 637, 3) := by decide +kernel
theorem mo_39 : MOK 39 := ⟨List.mem_of_getElem? (i := 640) (by decide +kernel), by decide +kernel, ⟨by decide +kernel, by decide +kernel⟩, List.mem_of_getElem? (i := 102) (by decide +kernel), by decide +kernel⟩
theorem m0_39 : M0K 39 := ⟨by decide +kernel, by decide +kernel⟩
theorem sk_36_637 : SKc 36 637 39 4 := ⟨⟨List.mem_of_getElem? (i := 638) (by decide +kernel), by decide +kernel⟩, List.mem_of_getElem? (i := 639) (by decide +kernel), mo_39, m0_39⟩
theorem d_36_20 : decode (mC 36) 20 = .ok (.goto 16, 3) := by decide +kernel
theorem d_36_36 : decode (mC 36) 36 = .ok (.ireturn, 1) := by decide +kernel
theorem mr_36 : mR 36 = some .int := by decide +kernel
theorem ml_36 : mL 36 = 3 := by decide +kernel
theorem d_35_0 : decode (mC 35) 0 = .ok (.aload_n 0, 1) := by decide +kernel
theorem d_35_1 : decode (mC 35) 1 = .ok (.iload_n 1, 1) := by decide +kernel
theorem d_35_2 : decode (mC 35) 2 = .ok (.iconst 0, 1) := by decide +kernel
theorem d_35_3 : decode (mC 35) 3 = .ok (.invokevirtual 633, 3) := by decide +kernel
theorem mo_36 : MOK 36 := ⟨List.mem_of_getElem? (i := 629) (by decide +kernel), by decide +kernel, ⟨by decide +kernel, by decide +kernel⟩, List.mem_of_getElem? (i := 101) (by decide +kernel), by decide +kernel⟩
theorem m0_36 : M0K 36 := ⟨by decide +kernel, by decide +kernel⟩
theorem tk_35_633 : TK 35 633 36 2 := ⟨⟨List.mem_of_getElem? (i := 626) (by decide +kernel), by decide +kernel⟩, List.mem_of_getElem? (i := 627) (by decide +kernel), mo_36, m0_36, List.mem_of_getElem? (i := 628) (by decide +kernel)⟩
theorem d_35_6 : decode (mC 35) 6 = .ok (.ireturn, 1) := by decide +kernel
theorem mr_35 : mR 35 = some .int := by decide +kernel
theorem ml_35 : mL 35 = 2 := by decide +kernel
theorem d_20_0 : decode (mC 20) 0 = .ok (.aload_n 1, 1) := by decide +kernel
theorem d_20_1 : decode (mC 20) 1 = .ok (.aload_n 0, 1) := by decide +kernel
theorem d_20_2 : decode (mC 20) 2 = .ok (.getfield 28, 3) := by decide +kernel
theorem cn_20 : (mN 20).cls = "CordLoft$Tokens" := by decide +kernel
theorem d_20_5 : decode (mC 20) 5 = .ok (.invokevirtual 55, 3) := by decide +kernel
theorem vk_20_55 : VK 20 55 19 1 9 := ⟨⟨List.mem_of_getElem? (i := 553) (by decide +kernel), by decide +kernel⟩, List.mem_of_getElem? (i := 554) (by decide +kernel), mo_19, m0_19, _, rfl, List.mem_of_getElem? (i := 555) (by decide +kernel), by decide⟩
theorem d_20_8 : decode (mC 20) 8 = .ok (.istore_n 3, 1) := by decide +kernel
theorem ml_20 : mL 20 = 4 := by decide +kernel
theorem d_20_9 : decode (mC 20) 9 = .ok (.iload_n 3, 1) := by decide +kernel
theorem d_20_10 : decode (mC 20) 10 = .ok (.ifCond .ge 5, 3) := by decide +kernel
theorem d_20_15 : decode (mC 20) 15 = .ok (.iload_n 3, 1) := by decide +kernel
theorem d_20_16 : decode (mC 20) 16 = .ok (.invokestatic 59, 3) := by decide +kernel
theorem sk_20_59 : SKc 20 59 21 1 := ⟨⟨List.mem_of_getElem? (i := 561) (by decide +kernel), by decide +kernel⟩, List.mem_of_getElem? (i := 562) (by decide +kernel), mo_21, m0_21⟩
theorem d_20_19 : decode (mC 20) 19 = .ok (.ifCond .eq 10, 3) := by decide +kernel
theorem d_20_29 : decode (mC 20) 29 = .ok (.iload_n 3, 1) := by decide +kernel
theorem d_20_30 : decode (mC 20) 30 = .ok (.invokestatic 66, 3) := by decide +kernel
theorem sk_20_66 : SKc 20 66 33 1 := ⟨⟨List.mem_of_getElem? (i := 613) (by decide +kernel), by decide +kernel⟩, List.mem_of_getElem? (i := 614) (by decide +kernel), mo_33, m0_33⟩
theorem d_20_33 : decode (mC 20) 33 = .ok (.ifCond .eq 10, 3) := by decide +kernel
theorem d_20_43 : decode (mC 20) 43 = .ok (.aload_n 0, 1) := by decide +kernel
theorem d_20_44 : decode (mC 20) 44 = .ok (.dup, 1) := by decide +kernel
theorem d_20_45 : decode (mC 20) 45 = .ok (.getfield 28, 3) := by decide +kernel
theorem d_20_48 : decode (mC 20) 48 = .ok (.iconst 1, 1) := by decide +kernel
theorem d_20_49 : decode (mC 20) 49 = .ok (.iadd, 1) := by decide +kernel
theorem d_20_50 : decode (mC 20) 50 = .ok (.putfield 28, 3) := by decide +kernel
theorem d_20_53 : decode (mC 20) 53 = .ok (.ldc 72, 2) := by decide +kernel
theorem d_20_55 : decode (mC 20) 55 = .ok (.iload_n 3, 1) := by decide +kernel
theorem d_20_56 : decode (mC 20) 56 = .ok (.i2c, 1) := by decide +kernel
theorem d_20_57 : decode (mC 20) 57 = .ok (.invokevirtual 74, 3) := by decide +kernel
theorem mo_35 : MOK 35 := ⟨List.mem_of_getElem? (i := 625) (by decide +kernel), by decide +kernel, ⟨by decide +kernel, by decide +kernel⟩, List.mem_of_getElem? (i := 101) (by decide +kernel), by decide +kernel⟩
theorem m0_35 : M0K 35 := ⟨by decide +kernel, by decide +kernel⟩
theorem tk_20_74 : TK 20 74 35 1 := ⟨⟨List.mem_of_getElem? (i := 622) (by decide +kernel), by decide +kernel⟩, List.mem_of_getElem? (i := 623) (by decide +kernel), mo_35, m0_35, List.mem_of_getElem? (i := 624) (by decide +kernel)⟩
theorem d_20_60 : decode (mC 20) 60 = .ok (.ifCond .lt 7, 3) := by decide +kernel
theorem d_20_67 : decode (mC 20) 67 = .ok (.iconst 1, 1) := by decide +kernel
theorem d_20_68 : decode (mC 20) 68 = .ok (.ireturn, 1) := by decide +kernel
theorem mr_20 : mR 20 = some .int := by decide +kernel
theorem d_20_63 : decode (mC 20) 63 = .ok (.iload_n 3, 1) := by decide +kernel
theorem d_20_64 : decode (mC 20) 64 = .ok (.goto 4, 3) := by decide +kernel
theorem d_20_36 : decode (mC 20) 36 = .ok (.aload_n 0, 1) := by decide +kernel
theorem d_20_37 : decode (mC 20) 37 = .ok (.aload_n 1, 1) := by decide +kernel
theorem d_20_38 : decode (mC 20) 38 = .ok (.iload_n 2, 1) := by decide +kernel
theorem d_20_39 : decode (mC 20) 39 = .ok (.invokevirtual 69, 3) := by decide +kernel
theorem mo_34 : MOK 34 := ⟨List.mem_of_getElem? (i := 619) (by decide +kernel), by decide +kernel, ⟨by decide +kernel, by decide +kernel⟩, List.mem_of_getElem? (i := 90) (by decide +kernel), by decide +kernel⟩
theorem m0_34 : M0K 34 := ⟨by decide +kernel, by decide +kernel⟩
theorem vk_20_69 : VK 20 69 34 2 10 := ⟨⟨List.mem_of_getElem? (i := 616) (by decide +kernel), by decide +kernel⟩, List.mem_of_getElem? (i := 618) (by decide +kernel), mo_34, m0_34, _, rfl, List.mem_of_getElem? (i := 3) (by decide +kernel), by decide⟩
theorem d_20_42 : decode (mC 20) 42 = .ok (.ireturn, 1) := by decide +kernel
theorem d_20_22 : decode (mC 20) 22 = .ok (.aload_n 0, 1) := by decide +kernel
theorem d_20_23 : decode (mC 20) 23 = .ok (.aload_n 1, 1) := by decide +kernel
theorem d_20_24 : decode (mC 20) 24 = .ok (.iload_n 2, 1) := by decide +kernel
theorem d_20_25 : decode (mC 20) 25 = .ok (.invokevirtual 63, 3) := by decide +kernel
theorem mo_22 : MOK 22 := ⟨List.mem_of_getElem? (i := 567) (by decide +kernel), by decide +kernel, ⟨by decide +kernel, by decide +kernel⟩, List.mem_of_getElem? (i := 90) (by decide +kernel), by decide +kernel⟩
theorem m0_22 : M0K 22 := ⟨by decide +kernel, by decide +kernel⟩
theorem vk_20_63 : VK 20 63 22 2 10 := ⟨⟨List.mem_of_getElem? (i := 564) (by decide +kernel), by decide +kernel⟩, List.mem_of_getElem? (i := 566) (by decide +kernel), mo_22, m0_22, _, rfl, List.mem_of_getElem? (i := 2) (by decide +kernel), by decide⟩
theorem d_20_28 : decode (mC 20) 28 = .ok (.ireturn, 1) := by decide +kernel
theorem d_20_13 : decode (mC 20) 13 = .ok (.iconst 0, 1) := by decide +kernel
theorem d_20_14 : decode (mC 20) 14 = .ok (.ireturn, 1) := by decide +kernel
theorem d_17_14 : decode (mC 17) 14 = .ok (.iload_n 3, 1) := by decide +kernel
theorem d_17_15 : decode (mC 17) 15 = .ok (.sipush 1600, 3) := by decide +kernel
theorem d_17_18 : decode (mC 17) 18 = .ok (.if_icmp .gt 61, 3) := by decide +kernel
theorem d_17_21 : decode (mC 17) 21 = .ok (.iload_n 2, 1) := by decide +kernel
theorem d_17_22 : decode (mC 17) 22 = .ok (.ifCond .eq 57, 3) := by decide +kernel
theorem d_17_25 : decode (mC 17) 25 = .ok (.iload_n 2, 1) := by decide +kernel
theorem d_17_26 : decode (mC 17) 26 = .ok (.iconst 1, 1) := by decide +kernel
theorem d_17_27 : decode (mC 17) 27 = .ok (.if_icmp .eq 52, 3) := by decide +kernel
theorem d_17_30 : decode (mC 17) 30 = .ok (.aload_n 0, 1) := by decide +kernel
theorem d_17_31 : decode (mC 17) 31 = .ok (.aload_n 1, 1) := by decide +kernel
theorem d_17_32 : decode (mC 17) 32 = .ok (.invokevirtual 31, 3) := by decide +kernel
theorem mo_18 : MOK 18 := ⟨List.mem_of_getElem? (i := 552) (by decide +kernel), by decide +kernel, ⟨by decide +kernel, by decide +kernel⟩, List.mem_of_getElem? (i := 90) (by decide +kernel), by decide +kernel⟩
theorem m0_18 : M0K 18 := ⟨by decide +kernel, by decide +kernel⟩
theorem vk_17_31 : VK 17 31 18 1 10 := ⟨⟨List.mem_of_getElem? (i := 549) (by decide +kernel), by decide +kernel⟩, List.mem_of_getElem? (i := 551) (by decide +kernel), mo_18, m0_18, _, rfl, List.mem_of_getElem? (i := 0) (by decide +kernel), by decide⟩
theorem d_17_35 : decode (mC 17) 35 = .ok (.aload_n 0, 1) := by decide +kernel
theorem d_17_36 : decode (mC 17) 36 = .ok (.getfield 17, 3) := by decide +kernel
theorem cn_17 : (mN 17).cls = "CordLoft$Tokens" := by decide +kernel
theorem d_17_39 : decode (mC 17) 39 = .ok (.iload_n 3, 1) := by decide +kernel
theorem d_17_40 : decode (mC 17) 40 = .ok (.aload_n 0, 1) := by decide +kernel
theorem d_17_41 : decode (mC 17) 41 = .ok (.getfield 28, 3) := by decide +kernel
theorem d_17_44 : decode (mC 17) 44 = .ok (.iastore, 1) := by decide +kernel
theorem d_17_45 : decode (mC 17) 45 = .ok (.aload_n 0, 1) := by decide +kernel
theorem d_17_46 : decode (mC 17) 46 = .ok (.getfield 20, 3) := by decide +kernel
theorem d_17_49 : decode (mC 17) 49 = .ok (.iload_n 3, 1) := by decide +kernel
theorem d_17_50 : decode (mC 17) 50 = .ok (.lconst 0, 1) := by decide +kernel
theorem d_17_51 : decode (mC 17) 51 = .ok (.lastore, 1) := by decide +kernel
theorem d_17_52 : decode (mC 17) 52 = .ok (.aload_n 0, 1) := by decide +kernel
theorem d_17_53 : decode (mC 17) 53 = .ok (.aload_n 1, 1) := by decide +kernel
theorem d_17_54 : decode (mC 17) 54 = .ok (.iload_n 3, 1) := by decide +kernel
theorem d_17_55 : decode (mC 17) 55 = .ok (.invokevirtual 35, 3) := by decide +kernel
theorem mo_20 : MOK 20 := ⟨List.mem_of_getElem? (i := 560) (by decide +kernel), by decide +kernel, ⟨by decide +kernel, by decide +kernel⟩, List.mem_of_getElem? (i := 90) (by decide +kernel), by decide +kernel⟩
theorem m0_20 : M0K 20 := ⟨by decide +kernel, by decide +kernel⟩
theorem vk_17_35 : VK 17 35 20 2 10 := ⟨⟨List.mem_of_getElem? (i := 557) (by decide +kernel), by decide +kernel⟩, List.mem_of_getElem? (i := 559) (by decide +kernel), mo_20, m0_20, _, rfl, List.mem_of_getElem? (i := 1) (by decide +kernel), by decide⟩
theorem d_17_58 : decode (mC 17) 58 = .ok (.istore_n 2, 1) := by decide +kernel
theorem ml_17 : mL 17 = 4 := by decide +kernel
theorem d_17_59 : decode (mC 17) 59 = .ok (.aload_n 0, 1) := by decide +kernel
theorem d_17_60 : decode (mC 17) 60 = .ok (.getfield 11, 3) := by decide +kernel
theorem d_17_63 : decode (mC 17) 63 = .ok (.iload_n 3, 1) := by decide +kernel
theorem d_17_64 : decode (mC 17) 64 = .ok (.iload_n 2, 1) := by decide +kernel
theorem d_17_65 : decode (mC 17) 65 = .ok (.iastore, 1) := by decide +kernel
theorem d_17_66 : decode (mC 17) 66 = .ok (.aload_n 0, 1) := by decide +kernel
theorem d_17_67 : decode (mC 17) 67 = .ok (.iload_n 3, 1) := by decide +kernel
theorem d_17_68 : decode (mC 17) 68 = .ok (.iconst 1, 1) := by decide +kernel
theorem d_17_69 : decode (mC 17) 69 = .ok (.iadd, 1) := by decide +kernel
theorem d_17_70 : decode (mC 17) 70 = .ok (.putfield 24, 3) := by decide +kernel
theorem fp_CordLoft_Tokens_24 : FP 0 "CordLoft$Tokens" 24 10 3 := ⟨⟨_, rfl, by decide, List.mem_of_getElem? (i := 140) (by decide +kernel), rfl⟩, rfl, by decide, by decide +kernel⟩
theorem d_17_73 : decode (mC 17) 73 = .ok (.iinc 3 1, 3) := by decide +kernel
theorem d_17_76 : decode (mC 17) 76 = .ok (.goto (-62), 3) := by decide +kernel
theorem d_17_0 : decode (mC 17) 0 = .ok (.aload_n 0, 1) := by decide +kernel
theorem d_17_1 : decode (mC 17) 1 = .ok (.iconst 0, 1) := by decide +kernel
theorem d_17_2 : decode (mC 17) 2 = .ok (.putfield 24, 3) := by decide +kernel
theorem d_17_5 : decode (mC 17) 5 = .ok (.aload_n 0, 1) := by decide +kernel
theorem d_17_6 : decode (mC 17) 6 = .ok (.iconst 0, 1) := by decide +kernel
theorem d_17_7 : decode (mC 17) 7 = .ok (.putfield 28, 3) := by decide +kernel
theorem d_17_10 : decode (mC 17) 10 = .ok (.iconst 2, 1) := by decide +kernel
theorem d_17_11 : decode (mC 17) 11 = .ok (.istore_n 2, 1) := by decide +kernel
theorem d_17_12 : decode (mC 17) 12 = .ok (.iconst 0, 1) := by decide +kernel
theorem d_17_13 : decode (mC 17) 13 = .ok (.istore_n 3, 1) := by decide +kernel
theorem d_17_79 : decode (mC 17) 79 = .ok (.aload_n 0, 1) := by decide +kernel
theorem d_17_80 : decode (mC 17) 80 = .ok (.iconst (-1), 1) := by decide +kernel
theorem d_17_81 : decode (mC 17) 81 = .ok (.putfield 39, 3) := by decide +kernel
theorem d_17_84 : decode (mC 17) 84 = .ok (.aload_n 0, 1) := by decide +kernel
theorem d_17_85 : decode (mC 17) 85 = .ok (.invokevirtual 42, 3) := by decide +kernel
theorem vk_17_42 : VK 17 42 54 0 10 := ⟨⟨List.mem_of_getElem? (i := 688) (by decide +kernel), by decide +kernel⟩, List.mem_of_getElem? (i := 689) (by decide +kernel), mo_54, m0_54, _, rfl, List.mem_of_getElem? (i := 690) (by decide +kernel), by decide⟩
theorem d_17_88 : decode (mC 17) 88 = .ok (.return_, 1) := by decide +kernel
theorem mr_17 : mR 17 = none := by decide +kernel
theorem d_57_0 : decode (mC 57) 0 = .ok (.aload_n 0, 1) := by decide +kernel
theorem d_57_1 : decode (mC 57) 1 = .ok (.iconst 0, 1) := by decide +kernel
theorem d_57_2 : decode (mC 57) 2 = .ok (.putfield 19, 3) := by decide +kernel
theorem cn_57 : (mN 57).cls = "CordLoft$Formula" := by decide +kernel
theorem d_57_5 : decode (mC 57) 5 = .ok (.aload_n 0, 1) := by decide +kernel
theorem d_57_6 : decode (mC 57) 6 = .ok (.iconst 0, 1) := by decide +kernel
theorem d_57_7 : decode (mC 57) 7 = .ok (.putfield 23, 3) := by decide +kernel
theorem fp_CordLoft_Formula_23 : FP 0 "CordLoft$Formula" 23 2 4 := ⟨⟨_, rfl, by decide, List.mem_of_getElem? (i := 213) (by decide +kernel), rfl⟩, rfl, by decide, by decide +kernel⟩
theorem d_57_10 : decode (mC 57) 10 = .ok (.return_, 1) := by decide +kernel
theorem mr_57 : mR 57 = none := by decide +kernel
theorem ml_57 : mL 57 = 1 := by decide +kernel
theorem d_56_0 : decode (mC 56) 0 = .ok (.aload_n 0, 1) := by decide +kernel
theorem d_56_1 : decode (mC 56) 1 = .ok (.iconst 0, 1) := by decide +kernel
theorem d_56_2 : decode (mC 56) 2 = .ok (.putfield 51, 3) := by decide +kernel
theorem fp_CordLoft_Plan_51 : FP 0 "CordLoft$Plan" 51 4 0 := ⟨⟨_, rfl, by decide, List.mem_of_getElem? (i := 227) (by decide +kernel), rfl⟩, rfl, by decide, by decide +kernel⟩
theorem cn_56 : (mN 56).cls = "CordLoft$Plan" := by decide +kernel
theorem d_56_5 : decode (mC 56) 5 = .ok (.aload_n 0, 1) := by decide +kernel
theorem d_56_6 : decode (mC 56) 6 = .ok (.iconst 0, 1) := by decide +kernel
theorem d_56_7 : decode (mC 56) 7 = .ok (.putfield 55, 3) := by decide +kernel
theorem fp_CordLoft_Plan_55 : FP 0 "CordLoft$Plan" 55 4 1 := ⟨⟨_, rfl, by decide, List.mem_of_getElem? (i := 233) (by decide +kernel), rfl⟩, rfl, by decide, by decide +kernel⟩
theorem d_56_10 : decode (mC 56) 10 = .ok (.aload_n 0, 1) := by decide +kernel
theorem d_56_11 : decode (mC 56) 11 = .ok (.iconst 0, 1) := by decide +kernel
theorem d_56_12 : decode (mC 56) 12 = .ok (.putfield 58, 3) := by decide +kernel
theorem fp_CordLoft_Plan_58 : FP 0 "CordLoft$Plan" 58 4 6 := ⟨⟨_, rfl, by decide, List.mem_of_getElem? (i := 245) (by decide +kernel), rfl⟩, rfl, by decide, by decide +kernel⟩
theorem d_56_15 : decode (mC 56) 15 = .ok (.aload_n 0, 1) := by decide +kernel
theorem d_56_16 : decode (mC 56) 16 = .ok (.getfield 40, 3) := by decide +kernel
theorem fk_CordLoft_Plan_40 : FK 2 "CordLoft$Plan" 40 4 11 := ⟨⟨_, rfl, by decide, List.mem_of_getElem? (i := 263) (by decide +kernel)⟩, rfl, by decide⟩
theorem d_56_19 : decode (mC 56) 19 = .ok (.invokevirtual 61, 3) := by decide +kernel
theorem mo_57 : MOK 57 := ⟨List.mem_of_getElem? (i := 703) (by decide +kernel), by decide +kernel, ⟨by decide +kernel, by decide +kernel⟩, List.mem_of_getElem? (i := 93) (by decide +kernel), by decide +kernel⟩
theorem m0_57 : M0K 57 := ⟨by decide +kernel, by decide +kernel⟩
theorem vk_56_61 : VK 56 61 57 0 2 := ⟨⟨List.mem_of_getElem? (i := 700) (by decide +kernel), by decide +kernel⟩, List.mem_of_getElem? (i := 701) (by decide +kernel), mo_57, m0_57, _, rfl, List.mem_of_getElem? (i := 702) (by decide +kernel), by decide⟩
theorem d_56_22 : decode (mC 56) 22 = .ok (.aload_n 0, 1) := by decide +kernel
theorem d_56_23 : decode (mC 56) 23 = .ok (.iconst 0, 1) := by decide +kernel
theorem d_56_24 : decode (mC 56) 24 = .ok (.putfield 64, 3) := by decide +kernel
theorem fp_CordLoft_Plan_64 : FP 0 "CordLoft$Plan" 64 4 14 := ⟨⟨_, rfl, by decide, List.mem_of_getElem? (i := 268) (by decide +kernel), rfl⟩, rfl, by decide, by decide +kernel⟩
theorem d_56_27 : decode (mC 56) 27 = .ok (.aload_n 0, 1) := by decide +kernel
theorem d_56_28 : decode (mC 56) 28 = .ok (.iconst 0, 1) := by decide +kernel
theorem d_56_29 : decode (mC 56) 29 = .ok (.putfield 67, 3) := by decide +kernel
theorem fp_CordLoft_Plan_67 : FP 0 "CordLoft$Plan" 67 4 15 := ⟨⟨_, rfl, by decide, List.mem_of_getElem? (i := 272) (by decide +kernel), rfl⟩, rfl, by decide, by decide +kernel⟩
theorem d_56_32 : decode (mC 56) 32 = .ok (.aload_n 0, 1) := by decide +kernel
theorem d_56_33 : decode (mC 56) 33 = .ok (.iconst 0, 1) := by decide +kernel
theorem d_56_34 : decode (mC 56) 34 = .ok (.putfield 70, 3) := by decide +kernel
theorem fp_CordLoft_Plan_70 : FP 0 "CordLoft$Plan" 70 4 16 := ⟨⟨_, rfl, by decide, List.mem_of_getElem? (i := 277) (by decide +kernel), rfl⟩, rfl, by decide, by decide +kernel⟩
theorem d_56_37 : decode (mC 56) 37 = .ok (.return_, 1) := by decide +kernel
theorem mr_56 : mR 56 = none := by decide +kernel
theorem ml_56 : mL 56 = 1 := by decide +kernel
theorem d_61_2 : decode (mC 61) 2 = .ok (.iload_n 3, 1) := by decide +kernel
theorem d_61_3 : decode (mC 61) 3 = .ok (.aload_n 0, 1) := by decide +kernel
theorem d_61_4 : decode (mC 61) 4 = .ok (.getfield 51, 3) := by decide +kernel
theorem fk_CordLoft_Plan_51 : FK 0 "CordLoft$Plan" 51 4 0 := ⟨⟨_, rfl, by decide, List.mem_of_getElem? (i := 227) (by decide +kernel)⟩, rfl, by decide⟩
theorem cn_61 : (mN 61).cls = "CordLoft$Plan" := by decide +kernel
theorem d_61_7 : decode (mC 61) 7 = .ok (.if_icmp .ge 22, 3) := by decide +kernel
theorem d_61_10 : decode (mC 61) 10 = .ok (.aload_n 0, 1) := by decide +kernel
theorem d_61_11 : decode (mC 61) 11 = .ok (.getfield 11, 3) := by decide +kernel
theorem fk_CordLoft_Plan_11 : FK 2 "CordLoft$Plan" 11 4 2 := ⟨⟨_, rfl, by decide, List.mem_of_getElem? (i := 236) (by decide +kernel)⟩, rfl, by decide⟩
theorem ft_5_2 : finT 5 2 = some (1, 1) := by decide +kernel
theorem kr_5_1 {p : Nat} (h : kd0 p = 5) : kd0 (p + 1) = 21 := by
  have h1 : p < 138 := kd_138 h (by decide)
  have h2 : ∀ p, p < 138 → kd0 p = 5 → kd0 (p + 1) = 21 := by decide +kernel
  exact h2 p h1 h
theorem lr_5_1 {p : Nat} (h : kd0 p = 5) : ln0 (p + 1) = 8 := by
  have h1 : p < 138 := kd_138 h (by decide)
  have h2 : ∀ p, p < 138 → kd0 p = 5 → ln0 (p + 1) = 8 := by decide +kernel
  exact h2 p h1 h
theorem d_61_14 : decode (mC 61) 14 = .ok (.iload_n 3, 1) := by decide +kernel
theorem d_61_15 : decode (mC 61) 15 = .ok (.laload, 1) := by decide +kernel
theorem d_61_16 : decode (mC 61) 16 = .ok (.lload_n 1, 1) := by decide +kernel
theorem d_61_17 : decode (mC 61) 17 = .ok (.lcmp, 1) := by decide +kernel
theorem d_61_18 : decode (mC 61) 18 = .ok (.ifCond .ne 5, 3) := by decide +kernel
theorem d_61_23 : decode (mC 61) 23 = .ok (.iinc 3 1, 3) := by decide +kernel
theorem ml_61 : mL 61 = 4 := by decide +kernel
theorem d_61_26 : decode (mC 61) 26 = .ok (.goto (-24), 3) := by decide +kernel
theorem d_61_21 : decode (mC 61) 21 = .ok (.iload_n 3, 1) := by decide +kernel
theorem d_61_22 : decode (mC 61) 22 = .ok (.ireturn, 1) := by decide +kernel
theorem mr_61 : mR 61 = some .int := by decide +kernel
theorem d_61_0 : decode (mC 61) 0 = .ok (.iconst 0, 1) := by decide +kernel
theorem d_61_1 : decode (mC 61) 1 = .ok (.istore_n 3, 1) := by decide +kernel
theorem d_61_29 : decode (mC 61) 29 = .ok (.iconst (-1), 1) := by decide +kernel
theorem d_61_30 : decode (mC 61) 30 = .ok (.ireturn, 1) := by decide +kernel
theorem d_62_0 : decode (mC 62) 0 = .ok (.aload_n 0, 1) := by decide +kernel
theorem d_62_1 : decode (mC 62) 1 = .ok (.getfield 51, 3) := by decide +kernel
theorem cn_62 : (mN 62).cls = "CordLoft$Plan" := by decide +kernel
theorem d_62_4 : decode (mC 62) 4 = .ok (.istore_n 3, 1) := by decide +kernel
theorem ml_62 : mL 62 = 4 := by decide +kernel
theorem d_62_5 : decode (mC 62) 5 = .ok (.iload_n 3, 1) := by decide +kernel
theorem d_62_6 : decode (mC 62) 6 = .ok (.bipush 8, 2) := by decide +kernel
theorem d_62_8 : decode (mC 62) 8 = .ok (.if_icmp .ge 41, 3) := by decide +kernel
theorem d_62_49 : decode (mC 62) 49 = .ok (.iload_n 3, 1) := by decide +kernel
theorem d_62_50 : decode (mC 62) 50 = .ok (.ireturn, 1) := by decide +kernel
theorem mr_62 : mR 62 = some .int := by decide +kernel
theorem d_62_11 : decode (mC 62) 11 = .ok (.aload_n 0, 1) := by decide +kernel
theorem d_62_12 : decode (mC 62) 12 = .ok (.getfield 11, 3) := by decide +kernel
theorem d_62_15 : decode (mC 62) 15 = .ok (.iload_n 3, 1) := by decide +kernel
theorem d_62_16 : decode (mC 62) 16 = .ok (.lload_n 1, 1) := by decide +kernel
theorem d_62_17 : decode (mC 62) 17 = .ok (.lastore, 1) := by decide +kernel
theorem d_62_18 : decode (mC 62) 18 = .ok (.aload_n 0, 1) := by decide +kernel
theorem d_62_19 : decode (mC 62) 19 = .ok (.getfield 15, 3) := by decide +kernel
theorem fk_CordLoft_Plan_15 : FK 2 "CordLoft$Plan" 15 4 3 := ⟨⟨_, rfl, by decide, List.mem_of_getElem? (i := 237) (by decide +kernel)⟩, rfl, by decide⟩
theorem ft_5_3 : finT 5 3 = some (2, 1) := by decide +kernel
theorem kr_5_2 {p : Nat} (h : kd0 p = 5) : kd0 (p + 2) = 20 := by
  have h1 : p < 138 := kd_138 h (by decide)
  have h2 : ∀ p, p < 138 → kd0 p = 5 → kd0 (p + 2) = 20 := by decide +kernel
  exact h2 p h1 h
theorem lr_5_2 {p : Nat} (h : kd0 p = 5) : ln0 (p + 2) = 8 := by
  have h1 : p < 138 := kd_138 h (by decide)
  have h2 : ∀ p, p < 138 → kd0 p = 5 → ln0 (p + 2) = 8 := by decide +kernel
  exact h2 p h1 h
theorem d_62_22 : decode (mC 62) 22 = .ok (.iload_n 3, 1) := by decide +kernel
theorem d_62_23 : decode (mC 62) 23 = .ok (.iconst 1, 1) := by decide +kernel
theorem d_62_24 : decode (mC 62) 24 = .ok (.iastore, 1) := by decide +kernel
theorem d_62_25 : decode (mC 62) 25 = .ok (.aload_n 0, 1) := by decide +kernel
theorem d_62_26 : decode (mC 62) 26 = .ok (.getfield 19, 3) := by decide +kernel
theorem fk_CordLoft_Plan_19 : FK 2 "CordLoft$Plan" 19 4 4 := ⟨⟨_, rfl, by decide, List.mem_of_getElem? (i := 240) (by decide +kernel)⟩, rfl, by decide⟩
theorem ft_5_4 : finT 5 4 = some (3, 1) := by decide +kernel
theorem kr_5_3 {p : Nat} (h : kd0 p = 5) : kd0 (p + 3) = 20 := by
  have h1 : p < 138 := kd_138 h (by decide)
  have h2 : ∀ p, p < 138 → kd0 p = 5 → kd0 (p + 3) = 20 := by decide +kernel
  exact h2 p h1 h
theorem lr_5_3 {p : Nat} (h : kd0 p = 5) : ln0 (p + 3) = 8 := by
  have h1 : p < 138 := kd_138 h (by decide)
  have h2 : ∀ p, p < 138 → kd0 p = 5 → ln0 (p + 3) = 8 := by decide +kernel
  exact h2 p h1 h
theorem d_62_29 : decode (mC 62) 29 = .ok (.iload_n 3, 1) := by decide +kernel
theorem d_62_30 : decode (mC 62) 30 = .ok (.iconst 0, 1) := by decide +kernel
theorem d_62_31 : decode (mC 62) 31 = .ok (.iastore, 1) := by decide +kernel
theorem d_62_32 : decode (mC 62) 32 = .ok (.aload_n 0, 1) := by decide +kernel
theorem d_62_33 : decode (mC 62) 33 = .ok (.getfield 22, 3) := by decide +kernel
theorem fk_CordLoft_Plan_22 : FK 2 "CordLoft$Plan" 22 4 5 := ⟨⟨_, rfl, by decide, List.mem_of_getElem? (i := 242) (by decide +kernel)⟩, rfl, by decide⟩
theorem ft_5_5 : finT 5 5 = some (4, 1) := by decide +kernel
theorem kr_5_4 {p : Nat} (h : kd0 p = 5) : kd0 (p + 4) = 20 := by
  have h1 : p < 138 := kd_138 h (by decide)
  have h2 : ∀ p, p < 138 → kd0 p = 5 → kd0 (p + 4) = 20 := by decide +kernel
  exact h2 p h1 h
theorem lr_5_4 {p : Nat} (h : kd0 p = 5) : ln0 (p + 4) = 8 := by
  have h1 : p < 138 := kd_138 h (by decide)
  have h2 : ∀ p, p < 138 → kd0 p = 5 → ln0 (p + 4) = 8 := by decide +kernel
  exact h2 p h1 h
theorem d_62_36 : decode (mC 62) 36 = .ok (.iload_n 3, 1) := by decide +kernel
theorem d_62_37 : decode (mC 62) 37 = .ok (.iconst 0, 1) := by decide +kernel
theorem d_62_38 : decode (mC 62) 38 = .ok (.iastore, 1) := by decide +kernel
theorem d_62_39 : decode (mC 62) 39 = .ok (.aload_n 0, 1) := by decide +kernel
theorem d_62_40 : decode (mC 62) 40 = .ok (.dup, 1) := by decide +kernel
theorem d_62_41 : decode (mC 62) 41 = .ok (.getfield 51, 3) := by decide +kernel
theorem d_62_44 : decode (mC 62) 44 = .ok (.iconst 1, 1) := by decide +kernel
theorem d_62_45 : decode (mC 62) 45 = .ok (.iadd, 1) := by decide +kernel
theorem d_62_46 : decode (mC 62) 46 = .ok (.putfield 51, 3) := by decide +kernel
theorem d_63_0 : decode (mC 63) 0 = .ok (.aload_n 0, 1) := by decide +kernel
theorem d_63_1 : decode (mC 63) 1 = .ok (.getfield 9, 3) := by decide +kernel
theorem cn_63 : (mN 63).cls = "CordLoft$Reader" := by decide +kernel
theorem d_63_4 : decode (mC 63) 4 = .ok (.getfield 36, 3) := by decide +kernel
theorem d_63_7 : decode (mC 63) 7 = .ok (.iconst 3, 1) := by decide +kernel
theorem d_63_8 : decode (mC 63) 8 = .ok (.if_icmp .eq 9, 3) := by decide +kernel
theorem d_63_17 : decode (mC 63) 17 = .ok (.aload_n 0, 1) := by decide +kernel
theorem d_63_18 : decode (mC 63) 18 = .ok (.getfield 9, 3) := by decide +kernel
theorem d_63_21 : decode (mC 63) 21 = .ok (.getfield 92, 3) := by decide +kernel
theorem d_63_24 : decode (mC 63) 24 = .ok (.iload_n 1, 1) := by decide +kernel
theorem d_63_25 : decode (mC 63) 25 = .ok (.i2l, 1) := by decide +kernel
theorem d_63_26 : decode (mC 63) 26 = .ok (.lcmp, 1) := by decide +kernel
theorem d_63_27 : decode (mC 63) 27 = .ok (.ifCond .le 9, 3) := by decide +kernel
theorem d_63_36 : decode (mC 63) 36 = .ok (.aload_n 0, 1) := by decide +kernel
theorem d_63_37 : decode (mC 63) 37 = .ok (.aload_n 0, 1) := by decide +kernel
theorem d_63_38 : decode (mC 63) 38 = .ok (.getfield 9, 3) := by decide +kernel
theorem d_63_41 : decode (mC 63) 41 = .ok (.getfield 92, 3) := by decide +kernel
theorem d_63_44 : decode (mC 63) 44 = .ok (.l2i, 1) := by decide +kernel
theorem d_63_45 : decode (mC 63) 45 = .ok (.putfield 68, 3) := by decide +kernel
theorem fp_CordLoft_Reader_68 : FP 0 "CordLoft$Reader" 68 5 3 := ⟨⟨_, rfl, by decide, List.mem_of_getElem? (i := 179) (by decide +kernel), rfl⟩, rfl, by decide, by decide +kernel⟩
theorem d_63_48 : decode (mC 63) 48 = .ok (.aload_n 0, 1) := by decide +kernel
theorem d_63_49 : decode (mC 63) 49 = .ok (.getfield 9, 3) := by decide +kernel
theorem d_63_52 : decode (mC 63) 52 = .ok (.invokevirtual 89, 3) := by decide +kernel
theorem vk_63_89 : VK 63 89 54 0 10 := ⟨⟨List.mem_of_getElem? (i := 716) (by decide +kernel), by decide +kernel⟩, List.mem_of_getElem? (i := 689) (by decide +kernel), mo_54, m0_54, _, rfl, List.mem_of_getElem? (i := 690) (by decide +kernel), by decide⟩
theorem d_63_55 : decode (mC 63) 55 = .ok (.iconst 1, 1) := by decide +kernel
theorem d_63_56 : decode (mC 63) 56 = .ok (.ireturn, 1) := by decide +kernel
theorem mr_63 : mR 63 = some .boolean := by decide +kernel
theorem d_63_30 : decode (mC 63) 30 = .ok (.aload_n 0, 1) := by decide +kernel
theorem d_63_31 : decode (mC 63) 31 = .ok (.iconst 4, 1) := by decide +kernel
theorem d_63_32 : decode (mC 63) 32 = .ok (.invokevirtual 80, 3) := by decide +kernel
theorem vk_63_80 : VK 63 80 60 1 5 := ⟨⟨List.mem_of_getElem? (i := 712) (by decide +kernel), by decide +kernel⟩, List.mem_of_getElem? (i := 714) (by decide +kernel), mo_60, m0_60, _, rfl, List.mem_of_getElem? (i := 6) (by decide +kernel), by decide⟩
theorem d_63_35 : decode (mC 63) 35 = .ok (.ireturn, 1) := by decide +kernel
theorem d_63_11 : decode (mC 63) 11 = .ok (.aload_n 0, 1) := by decide +kernel
theorem d_63_12 : decode (mC 63) 12 = .ok (.iconst 2, 1) := by decide +kernel
theorem d_63_13 : decode (mC 63) 13 = .ok (.invokevirtual 80, 3) := by decide +kernel
theorem d_63_16 : decode (mC 63) 16 = .ok (.ireturn, 1) := by decide +kernel
theorem ml_63 : mL 63 = 2 := by decide +kernel
theorem d_59_122 : decode (mC 59) 122 = .ok (.aload_n 0, 1) := by decide +kernel
theorem d_59_123 : decode (mC 59) 123 = .ok (.getfield 9, 3) := by decide +kernel
theorem cn_59 : (mN 59).cls = "CordLoft$Reader" := by decide +kernel
theorem d_59_126 : decode (mC 59) 126 = .ok (.getfield 36, 3) := by decide +kernel
theorem d_59_129 : decode (mC 59) 129 = .ok (.sipush 144, 3) := by decide +kernel
theorem si_144 : (Int16.ofInt 144).toInt32 = 144 := by decide +kernel
theorem d_59_132 : decode (mC 59) 132 = .ok (.if_icmp .ne 34, 3) := by decide +kernel
theorem d_59_166 : decode (mC 59) 166 = .ok (.iconst 1, 1) := by decide +kernel
theorem d_59_167 : decode (mC 59) 167 = .ok (.ireturn, 1) := by decide +kernel
theorem mr_59 : mR 59 = some .boolean := by decide +kernel
theorem d_59_135 : decode (mC 59) 135 = .ok (.aload_n 0, 1) := by decide +kernel
theorem d_59_136 : decode (mC 59) 136 = .ok (.getfield 9, 3) := by decide +kernel
theorem d_59_139 : decode (mC 59) 139 = .ok (.invokevirtual 89, 3) := by decide +kernel
theorem vk_59_89 : VK 59 89 54 0 10 := ⟨⟨List.mem_of_getElem? (i := 716) (by decide +kernel), by decide +kernel⟩, List.mem_of_getElem? (i := 689) (by decide +kernel), mo_54, m0_54, _, rfl, List.mem_of_getElem? (i := 690) (by decide +kernel), by decide⟩
theorem d_59_142 : decode (mC 59) 142 = .ok (.aload_n 0, 1) := by decide +kernel
theorem d_59_143 : decode (mC 59) 143 = .ok (.bipush 99, 2) := by decide +kernel
theorem bi_99 : (Int8.ofInt 99).toInt32 = 99 := by decide +kernel
theorem d_59_145 : decode (mC 59) 145 = .ok (.invokevirtual 64, 3) := by decide +kernel
theorem mo_63 : MOK 63 := ⟨List.mem_of_getElem? (i := 728) (by decide +kernel), by decide +kernel, ⟨by decide +kernel, by decide +kernel⟩, List.mem_of_getElem? (i := 91) (by decide +kernel), by decide +kernel⟩
theorem m0_63 : M0K 63 := ⟨by decide +kernel, by decide +kernel⟩
theorem vk_59_64 : VK 59 64 63 1 5 := ⟨⟨List.mem_of_getElem? (i := 725) (by decide +kernel), by decide +kernel⟩, List.mem_of_getElem? (i := 727) (by decide +kernel), mo_63, m0_63, _, rfl, List.mem_of_getElem? (i := 7) (by decide +kernel), by decide⟩
theorem d_59_148 : decode (mC 59) 148 = .ok (.ifCond .ne 5, 3) := by decide +kernel
theorem d_59_153 : decode (mC 59) 153 = .ok (.aload_n 0, 1) := by decide +kernel
theorem d_59_154 : decode (mC 59) 154 = .ok (.getfield 15, 3) := by decide +kernel
theorem d_59_157 : decode (mC 59) 157 = .ok (.getfield 106, 3) := by decide +kernel
theorem fk_CordLoft_Reader_106 : FK 2 "CordLoft$Reader" 106 4 3 := ⟨⟨_, rfl, by decide, List.mem_of_getElem? (i := 238) (by decide +kernel)⟩, rfl, by decide⟩
theorem d_59_160 : decode (mC 59) 160 = .ok (.iload_n 1, 1) := by decide +kernel
theorem d_59_161 : decode (mC 59) 161 = .ok (.aload_n 0, 1) := by decide +kernel
theorem d_59_162 : decode (mC 59) 162 = .ok (.getfield 68, 3) := by decide +kernel
theorem fk_CordLoft_Reader_68 : FK 0 "CordLoft$Reader" 68 5 3 := ⟨⟨_, rfl, by decide, List.mem_of_getElem? (i := 179) (by decide +kernel)⟩, rfl, by decide⟩
theorem d_59_165 : decode (mC 59) 165 = .ok (.iastore, 1) := by decide +kernel
theorem d_59_151 : decode (mC 59) 151 = .ok (.iconst 0, 1) := by decide +kernel
theorem d_59_152 : decode (mC 59) 152 = .ok (.ireturn, 1) := by decide +kernel
theorem d_59_0 : decode (mC 59) 0 = .ok (.aload_n 0, 1) := by decide +kernel
theorem d_59_1 : decode (mC 59) 1 = .ok (.getfield 15, 3) := by decide +kernel
theorem d_59_4 : decode (mC 59) 4 = .ok (.getfield 86, 3) := by decide +kernel
theorem fk_CordLoft_Reader_86 : FK 0 "CordLoft$Reader" 86 4 0 := ⟨⟨_, rfl, by decide, List.mem_of_getElem? (i := 228) (by decide +kernel)⟩, rfl, by decide⟩
theorem d_59_7 : decode (mC 59) 7 = .ok (.bipush 8, 2) := by decide +kernel
theorem d_59_9 : decode (mC 59) 9 = .ok (.if_icmp .lt 9, 3) := by decide +kernel
theorem d_59_18 : decode (mC 59) 18 = .ok (.aload_n 0, 1) := by decide +kernel
theorem d_59_19 : decode (mC 59) 19 = .ok (.getfield 9, 3) := by decide +kernel
theorem d_59_22 : decode (mC 59) 22 = .ok (.invokevirtual 89, 3) := by decide +kernel
theorem d_59_25 : decode (mC 59) 25 = .ok (.aload_n 0, 1) := by decide +kernel
theorem d_59_26 : decode (mC 59) 26 = .ok (.getfield 9, 3) := by decide +kernel
theorem d_59_29 : decode (mC 59) 29 = .ok (.getfield 36, 3) := by decide +kernel
theorem d_59_32 : decode (mC 59) 32 = .ok (.iconst 2, 1) := by decide +kernel
theorem d_59_33 : decode (mC 59) 33 = .ok (.if_icmp .eq 9, 3) := by decide +kernel
theorem d_59_42 : decode (mC 59) 42 = .ok (.aload_n 0, 1) := by decide +kernel
theorem d_59_43 : decode (mC 59) 43 = .ok (.getfield 15, 3) := by decide +kernel
theorem d_59_46 : decode (mC 59) 46 = .ok (.aload_n 0, 1) := by decide +kernel
theorem d_59_47 : decode (mC 59) 47 = .ok (.getfield 9, 3) := by decide +kernel
theorem d_59_50 : decode (mC 59) 50 = .ok (.getfield 92, 3) := by decide +kernel
theorem d_59_53 : decode (mC 59) 53 = .ok (.invokevirtual 96, 3) := by decide +kernel
theorem mo_61 : MOK 61 := ⟨List.mem_of_getElem? (i := 720) (by decide +kernel), by decide +kernel, ⟨by decide +kernel, by decide +kernel⟩, List.mem_of_getElem? (i := 92) (by decide +kernel), by decide +kernel⟩
theorem m0_61 : M0K 61 := ⟨by decide +kernel, by decide +kernel⟩
theorem vk_59_96 : VK 59 96 61 1 4 := ⟨⟨List.mem_of_getElem? (i := 717) (by decide +kernel), by decide +kernel⟩, List.mem_of_getElem? (i := 718) (by decide +kernel), mo_61, m0_61, _, rfl, List.mem_of_getElem? (i := 719) (by decide +kernel), by decide⟩
theorem d_59_56 : decode (mC 59) 56 = .ok (.ifCond .lt 9, 3) := by decide +kernel
theorem d_59_65 : decode (mC 59) 65 = .ok (.aload_n 0, 1) := by decide +kernel
theorem d_59_66 : decode (mC 59) 66 = .ok (.getfield 15, 3) := by decide +kernel
theorem d_59_69 : decode (mC 59) 69 = .ok (.aload_n 0, 1) := by decide +kernel
theorem d_59_70 : decode (mC 59) 70 = .ok (.getfield 9, 3) := by decide +kernel
theorem d_59_73 : decode (mC 59) 73 = .ok (.getfield 92, 3) := by decide +kernel
theorem d_59_76 : decode (mC 59) 76 = .ok (.invokevirtual 100, 3) := by decide +kernel
theorem mo_62 : MOK 62 := ⟨List.mem_of_getElem? (i := 724) (by decide +kernel), by decide +kernel, ⟨by decide +kernel, by decide +kernel⟩, List.mem_of_getElem? (i := 92) (by decide +kernel), by decide +kernel⟩
theorem m0_62 : M0K 62 := ⟨by decide +kernel, by decide +kernel⟩
theorem vk_59_100 : VK 59 100 62 1 4 := ⟨⟨List.mem_of_getElem? (i := 721) (by decide +kernel), by decide +kernel⟩, List.mem_of_getElem? (i := 722) (by decide +kernel), mo_62, m0_62, _, rfl, List.mem_of_getElem? (i := 723) (by decide +kernel), by decide⟩
theorem d_59_79 : decode (mC 59) 79 = .ok (.istore_n 1, 1) := by decide +kernel
theorem ml_59 : mL 59 = 2 := by decide +kernel
theorem d_59_80 : decode (mC 59) 80 = .ok (.aload_n 0, 1) := by decide +kernel
theorem d_59_81 : decode (mC 59) 81 = .ok (.getfield 9, 3) := by decide +kernel
theorem d_59_84 : decode (mC 59) 84 = .ok (.invokevirtual 89, 3) := by decide +kernel
theorem d_59_87 : decode (mC 59) 87 = .ok (.aload_n 0, 1) := by decide +kernel
theorem d_59_88 : decode (mC 59) 88 = .ok (.getfield 9, 3) := by decide +kernel
theorem d_59_91 : decode (mC 59) 91 = .ok (.getfield 36, 3) := by decide +kernel
theorem d_59_94 : decode (mC 59) 94 = .ok (.sipush 140, 3) := by decide +kernel
theorem d_59_97 : decode (mC 59) 97 = .ok (.if_icmp .ne 25, 3) := by decide +kernel
theorem d_59_100 : decode (mC 59) 100 = .ok (.aload_n 0, 1) := by decide +kernel
theorem d_59_101 : decode (mC 59) 101 = .ok (.getfield 15, 3) := by decide +kernel
theorem d_59_104 : decode (mC 59) 104 = .ok (.dup, 1) := by decide +kernel
theorem d_59_105 : decode (mC 59) 105 = .ok (.getfield 103, 3) := by decide +kernel
theorem fk_CordLoft_Reader_103 : FK 0 "CordLoft$Reader" 103 4 1 := ⟨⟨_, rfl, by decide, List.mem_of_getElem? (i := 234) (by decide +kernel)⟩, rfl, by decide⟩
theorem d_59_108 : decode (mC 59) 108 = .ok (.iconst 1, 1) := by decide +kernel
theorem d_59_109 : decode (mC 59) 109 = .ok (.iload_n 1, 1) := by decide +kernel
theorem d_59_110 : decode (mC 59) 110 = .ok (.ishl, 1) := by decide +kernel
theorem d_59_111 : decode (mC 59) 111 = .ok (.ior, 1) := by decide +kernel
theorem d_59_112 : decode (mC 59) 112 = .ok (.putfield 103, 3) := by decide +kernel
theorem fp_CordLoft_Reader_103 : FP 0 "CordLoft$Reader" 103 4 1 := ⟨⟨_, rfl, by decide, List.mem_of_getElem? (i := 234) (by decide +kernel), rfl⟩, rfl, by decide, by decide +kernel⟩
theorem d_59_115 : decode (mC 59) 115 = .ok (.aload_n 0, 1) := by decide +kernel
theorem d_59_116 : decode (mC 59) 116 = .ok (.getfield 9, 3) := by decide +kernel
theorem d_59_119 : decode (mC 59) 119 = .ok (.invokevirtual 89, 3) := by decide +kernel
theorem d_59_59 : decode (mC 59) 59 = .ok (.aload_n 0, 1) := by decide +kernel
theorem d_59_60 : decode (mC 59) 60 = .ok (.iconst 3, 1) := by decide +kernel
theorem d_59_61 : decode (mC 59) 61 = .ok (.invokevirtual 80, 3) := by decide +kernel
theorem vk_59_80 : VK 59 80 60 1 5 := ⟨⟨List.mem_of_getElem? (i := 712) (by decide +kernel), by decide +kernel⟩, List.mem_of_getElem? (i := 714) (by decide +kernel), mo_60, m0_60, _, rfl, List.mem_of_getElem? (i := 6) (by decide +kernel), by decide⟩
theorem d_59_64 : decode (mC 59) 64 = .ok (.ireturn, 1) := by decide +kernel
theorem d_59_36 : decode (mC 59) 36 = .ok (.aload_n 0, 1) := by decide +kernel
theorem d_59_37 : decode (mC 59) 37 = .ok (.iconst 2, 1) := by decide +kernel
theorem d_59_38 : decode (mC 59) 38 = .ok (.invokevirtual 80, 3) := by decide +kernel
theorem d_59_41 : decode (mC 59) 41 = .ok (.ireturn, 1) := by decide +kernel
theorem d_59_12 : decode (mC 59) 12 = .ok (.aload_n 0, 1) := by decide +kernel
theorem d_59_13 : decode (mC 59) 13 = .ok (.iconst 2, 1) := by decide +kernel
theorem d_59_14 : decode (mC 59) 14 = .ok (.invokevirtual 80, 3) := by decide +kernel
theorem d_59_17 : decode (mC 59) 17 = .ok (.ireturn, 1) := by decide +kernel
theorem d_65_2 : decode (mC 65) 2 = .ok (.iload_n 3, 1) := by decide +kernel
theorem d_65_3 : decode (mC 65) 3 = .ok (.aload_n 0, 1) := by decide +kernel
theorem d_65_4 : decode (mC 65) 4 = .ok (.getfield 58, 3) := by decide +kernel
theorem fk_CordLoft_Plan_58 : FK 0 "CordLoft$Plan" 58 4 6 := ⟨⟨_, rfl, by decide, List.mem_of_getElem? (i := 245) (by decide +kernel)⟩, rfl, by decide⟩
theorem cn_65 : (mN 65).cls = "CordLoft$Plan" := by decide +kernel
theorem d_65_7 : decode (mC 65) 7 = .ok (.if_icmp .ge 22, 3) := by decide +kernel
theorem d_65_10 : decode (mC 65) 10 = .ok (.aload_n 0, 1) := by decide +kernel
theorem d_65_11 : decode (mC 65) 11 = .ok (.getfield 25, 3) := by decide +kernel
theorem fk_CordLoft_Plan_25 : FK 2 "CordLoft$Plan" 25 4 7 := ⟨⟨_, rfl, by decide, List.mem_of_getElem? (i := 250) (by decide +kernel)⟩, rfl, by decide⟩
theorem ft_5_7 : finT 5 7 = some (5, 1) := by decide +kernel
theorem kr_5_5 {p : Nat} (h : kd0 p = 5) : kd0 (p + 5) = 21 := by
  have h1 : p < 138 := kd_138 h (by decide)
  have h2 : ∀ p, p < 138 → kd0 p = 5 → kd0 (p + 5) = 21 := by decide +kernel
  exact h2 p h1 h
theorem lr_5_5 {p : Nat} (h : kd0 p = 5) : ln0 (p + 5) = 8 := by
  have h1 : p < 138 := kd_138 h (by decide)
  have h2 : ∀ p, p < 138 → kd0 p = 5 → ln0 (p + 5) = 8 := by decide +kernel
  exact h2 p h1 h
theorem d_65_14 : decode (mC 65) 14 = .ok (.iload_n 3, 1) := by decide +kernel
theorem d_65_15 : decode (mC 65) 15 = .ok (.laload, 1) := by decide +kernel
theorem d_65_16 : decode (mC 65) 16 = .ok (.lload_n 1, 1) := by decide +kernel
theorem d_65_17 : decode (mC 65) 17 = .ok (.lcmp, 1) := by decide +kernel
theorem d_65_18 : decode (mC 65) 18 = .ok (.ifCond .ne 5, 3) := by decide +kernel
theorem d_65_23 : decode (mC 65) 23 = .ok (.iinc 3 1, 3) := by decide +kernel
theorem ml_65 : mL 65 = 4 := by decide +kernel
theorem d_65_26 : decode (mC 65) 26 = .ok (.goto (-24), 3) := by decide +kernel
theorem d_65_21 : decode (mC 65) 21 = .ok (.iconst 1, 1) := by decide +kernel
theorem d_65_22 : decode (mC 65) 22 = .ok (.ireturn, 1) := by decide +kernel
theorem mr_65 : mR 65 = some .boolean := by decide +kernel
theorem d_65_0 : decode (mC 65) 0 = .ok (.iconst 0, 1) := by decide +kernel
theorem d_65_1 : decode (mC 65) 1 = .ok (.istore_n 3, 1) := by decide +kernel
theorem d_65_29 : decode (mC 65) 29 = .ok (.iconst 0, 1) := by decide +kernel
theorem d_65_30 : decode (mC 65) 30 = .ok (.ireturn, 1) := by decide +kernel
theorem d_66_0 : decode (mC 66) 0 = .ok (.aload_n 0, 1) := by decide +kernel
theorem d_66_1 : decode (mC 66) 1 = .ok (.getfield 58, 3) := by decide +kernel
theorem cn_66 : (mN 66).cls = "CordLoft$Plan" := by decide +kernel
theorem d_66_4 : decode (mC 66) 4 = .ok (.istore_n 3, 1) := by decide +kernel
theorem ml_66 : mL 66 = 4 := by decide +kernel
theorem d_66_5 : decode (mC 66) 5 = .ok (.iload_n 3, 1) := by decide +kernel
theorem d_66_6 : decode (mC 66) 6 = .ok (.bipush 8, 2) := by decide +kernel
theorem d_66_8 : decode (mC 66) 8 = .ok (.if_icmp .ge 34, 3) := by decide +kernel
theorem d_66_42 : decode (mC 66) 42 = .ok (.iload_n 3, 1) := by decide +kernel
theorem d_66_43 : decode (mC 66) 43 = .ok (.ireturn, 1) := by decide +kernel
theorem mr_66 : mR 66 = some .int := by decide +kernel
theorem d_66_11 : decode (mC 66) 11 = .ok (.aload_n 0, 1) := by decide +kernel
theorem d_66_12 : decode (mC 66) 12 = .ok (.getfield 25, 3) := by decide +kernel
theorem d_66_15 : decode (mC 66) 15 = .ok (.iload_n 3, 1) := by decide +kernel
theorem d_66_16 : decode (mC 66) 16 = .ok (.lload_n 1, 1) := by decide +kernel
theorem d_66_17 : decode (mC 66) 17 = .ok (.lastore, 1) := by decide +kernel
theorem d_66_18 : decode (mC 66) 18 = .ok (.aload_n 0, 1) := by decide +kernel
theorem d_66_19 : decode (mC 66) 19 = .ok (.getfield 28, 3) := by decide +kernel
theorem fk_CordLoft_Plan_28 : FK 2 "CordLoft$Plan" 28 4 8 := ⟨⟨_, rfl, by decide, List.mem_of_getElem? (i := 251) (by decide +kernel)⟩, rfl, by decide⟩
theorem ft_5_8 : finT 5 8 = some (6, 1) := by decide +kernel
theorem kr_5_6 {p : Nat} (h : kd0 p = 5) : kd0 (p + 6) = 20 := by
  have h1 : p < 138 := kd_138 h (by decide)
  have h2 : ∀ p, p < 138 → kd0 p = 5 → kd0 (p + 6) = 20 := by decide +kernel
  exact h2 p h1 h
theorem lr_5_6 {p : Nat} (h : kd0 p = 5) : ln0 (p + 6) = 8 := by
  have h1 : p < 138 := kd_138 h (by decide)
  have h2 : ∀ p, p < 138 → kd0 p = 5 → ln0 (p + 6) = 8 := by decide +kernel
  exact h2 p h1 h
theorem d_66_22 : decode (mC 66) 22 = .ok (.iload_n 3, 1) := by decide +kernel
theorem d_66_23 : decode (mC 66) 23 = .ok (.iconst 0, 1) := by decide +kernel
theorem d_66_24 : decode (mC 66) 24 = .ok (.iastore, 1) := by decide +kernel
theorem d_66_25 : decode (mC 66) 25 = .ok (.aload_n 0, 1) := by decide +kernel
theorem d_66_26 : decode (mC 66) 26 = .ok (.getfield 31, 3) := by decide +kernel
theorem fk_CordLoft_Plan_31 : FK 2 "CordLoft$Plan" 31 4 9 := ⟨⟨_, rfl, by decide, List.mem_of_getElem? (i := 256) (by decide +kernel)⟩, rfl, by decide⟩
theorem ft_5_9 : finT 5 9 = some (7, 1) := by decide +kernel
theorem kr_5_7 {p : Nat} (h : kd0 p = 5) : kd0 (p + 7) = 20 := by
  have h1 : p < 138 := kd_138 h (by decide)
  have h2 : ∀ p, p < 138 → kd0 p = 5 → kd0 (p + 7) = 20 := by decide +kernel
  exact h2 p h1 h
theorem lr_5_7 {p : Nat} (h : kd0 p = 5) : ln0 (p + 7) = 8 := by
  have h1 : p < 138 := kd_138 h (by decide)
  have h2 : ∀ p, p < 138 → kd0 p = 5 → ln0 (p + 7) = 8 := by decide +kernel
  exact h2 p h1 h
theorem d_66_29 : decode (mC 66) 29 = .ok (.iload_n 3, 1) := by decide +kernel
theorem d_66_30 : decode (mC 66) 30 = .ok (.iconst 1, 1) := by decide +kernel
theorem d_66_31 : decode (mC 66) 31 = .ok (.iastore, 1) := by decide +kernel
theorem d_66_32 : decode (mC 66) 32 = .ok (.aload_n 0, 1) := by decide +kernel
theorem d_66_33 : decode (mC 66) 33 = .ok (.dup, 1) := by decide +kernel
theorem d_66_34 : decode (mC 66) 34 = .ok (.getfield 58, 3) := by decide +kernel
theorem d_66_37 : decode (mC 66) 37 = .ok (.iconst 1, 1) := by decide +kernel
theorem d_66_38 : decode (mC 66) 38 = .ok (.iadd, 1) := by decide +kernel
theorem d_66_39 : decode (mC 66) 39 = .ok (.putfield 58, 3) := by decide +kernel
theorem d_69_0 : decode (mC 69) 0 = .ok (.aload_n 0, 1) := by decide +kernel
theorem d_69_1 : decode (mC 69) 1 = .ok (.getfield 9, 3) := by decide +kernel
theorem cn_69 : (mN 69).cls = "CordLoft$Reader" := by decide +kernel
theorem d_69_4 : decode (mC 69) 4 = .ok (.getfield 36, 3) := by decide +kernel
theorem d_69_7 : decode (mC 69) 7 = .ok (.iconst 2, 1) := by decide +kernel
theorem d_69_8 : decode (mC 69) 8 = .ok (.if_icmp .eq 11, 3) := by decide +kernel
theorem d_69_19 : decode (mC 69) 19 = .ok (.aload_n 0, 1) := by decide +kernel
theorem d_69_20 : decode (mC 69) 20 = .ok (.getfield 15, 3) := by decide +kernel
theorem d_69_23 : decode (mC 69) 23 = .ok (.aload_n 0, 1) := by decide +kernel
theorem d_69_24 : decode (mC 69) 24 = .ok (.getfield 9, 3) := by decide +kernel
theorem d_69_27 : decode (mC 69) 27 = .ok (.getfield 92, 3) := by decide +kernel
theorem d_69_30 : decode (mC 69) 30 = .ok (.invokevirtual 96, 3) := by decide +kernel
theorem vk_69_96 : VK 69 96 61 1 4 := ⟨⟨List.mem_of_getElem? (i := 717) (by decide +kernel), by decide +kernel⟩, List.mem_of_getElem? (i := 718) (by decide +kernel), mo_61, m0_61, _, rfl, List.mem_of_getElem? (i := 719) (by decide +kernel), by decide⟩
theorem d_69_33 : decode (mC 69) 33 = .ok (.istore_n 1, 1) := by decide +kernel
theorem ml_69 : mL 69 = 2 := by decide +kernel
theorem d_69_34 : decode (mC 69) 34 = .ok (.iload_n 1, 1) := by decide +kernel
theorem d_69_35 : decode (mC 69) 35 = .ok (.ifCond .ge 9, 3) := by decide +kernel
theorem d_69_44 : decode (mC 69) 44 = .ok (.iload_n 1, 1) := by decide +kernel
theorem d_69_45 : decode (mC 69) 45 = .ok (.ireturn, 1) := by decide +kernel
theorem mr_69 : mR 69 = some .int := by decide +kernel
theorem d_69_38 : decode (mC 69) 38 = .ok (.aload_n 0, 1) := by decide +kernel
theorem d_69_39 : decode (mC 69) 39 = .ok (.iconst 5, 1) := by decide +kernel
theorem d_69_40 : decode (mC 69) 40 = .ok (.invokevirtual 80, 3) := by decide +kernel
theorem vk_69_80 : VK 69 80 60 1 5 := ⟨⟨List.mem_of_getElem? (i := 712) (by decide +kernel), by decide +kernel⟩, List.mem_of_getElem? (i := 714) (by decide +kernel), mo_60, m0_60, _, rfl, List.mem_of_getElem? (i := 6) (by decide +kernel), by decide⟩
theorem d_69_43 : decode (mC 69) 43 = .ok (.pop, 1) := by decide +kernel
theorem d_69_11 : decode (mC 69) 11 = .ok (.aload_n 0, 1) := by decide +kernel
theorem d_69_12 : decode (mC 69) 12 = .ok (.iconst 2, 1) := by decide +kernel
theorem d_69_13 : decode (mC 69) 13 = .ok (.invokevirtual 80, 3) := by decide +kernel
theorem d_69_16 : decode (mC 69) 16 = .ok (.pop, 1) := by decide +kernel
theorem d_69_17 : decode (mC 69) 17 = .ok (.iconst (-1), 1) := by decide +kernel
theorem d_69_18 : decode (mC 69) 18 = .ok (.ireturn, 1) := by decide +kernel
