theorem d_101_23 : decode (mC 101) 23 = .ok (.if_icmp .ge 108, 3) := by decide +kernel
theorem d_101_26 : decode (mC 101) 26 = .ok (.iload_n 1, 1) := by decide +kernel
theorem d_101_27 : decode (mC 101) 27 = .ok (.iload 4, 2) := by decide +kernel
theorem d_101_29 : decode (mC 101) 29 = .ok (.ishr, 1) := by decide +kernel
theorem d_101_30 : decode (mC 101) 30 = .ok (.iconst 1, 1) := by decide +kernel
theorem d_101_31 : decode (mC 101) 31 = .ok (.iand, 1) := by decide +kernel
theorem d_101_32 : decode (mC 101) 32 = .ok (.istore 5, 2) := by decide +kernel
theorem d_101_34 : decode (mC 101) 34 = .ok (.iload_n 1, 1) := by decide +kernel
theorem d_101_35 : decode (mC 101) 35 = .ok (.aload_n 0, 1) := by decide +kernel
theorem d_101_36 : decode (mC 101) 36 = .ok (.getfield 22, 3) := by decide +kernel
theorem d_101_39 : decode (mC 101) 39 = .ok (.iload 4, 2) := by decide +kernel
theorem d_101_41 : decode (mC 101) 41 = .ok (.iaload, 1) := by decide +kernel
theorem d_101_42 : decode (mC 101) 42 = .ok (.iand, 1) := by decide +kernel
theorem d_101_43 : decode (mC 101) 43 = .ok (.invokestatic 81, 3) := by decide +kernel
theorem sk_101_81 : SKc 101 81 92 1 := ⟨⟨List.mem_of_getElem? (i := 885) (by decide +kernel), by decide +kernel⟩, List.mem_of_getElem? (i := 840) (by decide +kernel), mo_92, m0_92⟩
theorem d_101_46 : decode (mC 101) 46 = .ok (.istore 6, 2) := by decide +kernel
theorem d_101_48 : decode (mC 101) 48 = .ok (.iload 4, 2) := by decide +kernel
theorem d_101_50 : decode (mC 101) 50 = .ok (.iconst 2, 1) := by decide +kernel
theorem d_101_51 : decode (mC 101) 51 = .ok (.imul, 1) := by decide +kernel
theorem d_101_52 : decode (mC 101) 52 = .ok (.iload 5, 2) := by decide +kernel
theorem d_101_54 : decode (mC 101) 54 = .ok (.iadd, 1) := by decide +kernel
theorem d_101_55 : decode (mC 101) 55 = .ok (.bipush 8, 2) := by decide +kernel
theorem d_101_57 : decode (mC 101) 57 = .ok (.imul, 1) := by decide +kernel
theorem d_101_58 : decode (mC 101) 58 = .ok (.iload 6, 2) := by decide +kernel
theorem d_101_60 : decode (mC 101) 60 = .ok (.iadd, 1) := by decide +kernel
theorem d_101_61 : decode (mC 101) 61 = .ok (.istore 7, 2) := by decide +kernel
theorem d_101_63 : decode (mC 101) 63 = .ok (.aload_n 0, 1) := by decide +kernel
theorem d_101_64 : decode (mC 101) 64 = .ok (.getfield 44, 3) := by decide +kernel
theorem d_101_67 : decode (mC 101) 67 = .ok (.iload 7, 2) := by decide +kernel
theorem d_101_69 : decode (mC 101) 69 = .ok (.iaload, 1) := by decide +kernel
theorem d_101_70 : decode (mC 101) 70 = .ok (.iload_n 2, 1) := by decide +kernel
theorem d_101_71 : decode (mC 101) 71 = .ok (.if_icmp .eq 37, 3) := by decide +kernel
theorem d_101_74 : decode (mC 101) 74 = .ok (.aload_n 0, 1) := by decide +kernel
theorem d_101_75 : decode (mC 101) 75 = .ok (.getfield 44, 3) := by decide +kernel
theorem d_101_78 : decode (mC 101) 78 = .ok (.iload 7, 2) := by decide +kernel
theorem d_101_80 : decode (mC 101) 80 = .ok (.iload_n 2, 1) := by decide +kernel
theorem d_101_81 : decode (mC 101) 81 = .ok (.iastore, 1) := by decide +kernel
theorem d_101_82 : decode (mC 101) 82 = .ok (.aload_n 0, 1) := by decide +kernel
theorem d_101_83 : decode (mC 101) 83 = .ok (.getfield 47, 3) := by decide +kernel
theorem d_101_86 : decode (mC 101) 86 = .ok (.iload 7, 2) := by decide +kernel
theorem d_101_88 : decode (mC 101) 88 = .ok (.aload_n 0, 1) := by decide +kernel
theorem d_101_89 : decode (mC 101) 89 = .ok (.iload 4, 2) := by decide +kernel
theorem d_101_91 : decode (mC 101) 91 = .ok (.iload 5, 2) := by decide +kernel
theorem d_101_93 : decode (mC 101) 93 = .ok (.iload 6, 2) := by decide +kernel
theorem d_101_95 : decode (mC 101) 95 = .ok (.iload_n 2, 1) := by decide +kernel
theorem d_101_96 : decode (mC 101) 96 = .ok (.invokevirtual 87, 3) := by decide +kernel
theorem mo_103 : MOK 103 := ⟨List.mem_of_getElem? (i := 889) (by decide +kernel), by decide +kernel, ⟨by decide +kernel, by decide +kernel⟩, List.mem_of_getElem? (i := 92) (by decide +kernel), by decide +kernel⟩
theorem m0_103 : M0K 103 := ⟨by decide +kernel, by decide +kernel⟩
theorem vk_101_87 : VK 101 87 103 4 4 := ⟨⟨List.mem_of_getElem? (i := 886) (by decide +kernel), by decide +kernel⟩, List.mem_of_getElem? (i := 888) (by decide +kernel), mo_103, m0_103, _, rfl, List.mem_of_getElem? (i := 20) (by decide +kernel), by decide⟩
theorem d_101_99 : decode (mC 101) 99 = .ok (.ifCond .le 7, 3) := by decide +kernel
theorem d_101_106 : decode (mC 101) 106 = .ok (.iconst 0, 1) := by decide +kernel
theorem d_101_102 : decode (mC 101) 102 = .ok (.iconst 1, 1) := by decide +kernel
theorem d_101_103 : decode (mC 101) 103 = .ok (.goto 4, 3) := by decide +kernel
theorem d_101_0 : decode (mC 101) 0 = .ok (.aload_n 0, 1) := by decide +kernel
theorem d_101_1 : decode (mC 101) 1 = .ok (.getfield 40, 3) := by decide +kernel
theorem d_101_4 : decode (mC 101) 4 = .ok (.invokevirtual 77, 3) := by decide +kernel
theorem mo_102 : MOK 102 := ⟨List.mem_of_getElem? (i := 884) (by decide +kernel), by decide +kernel, ⟨by decide +kernel, by decide +kernel⟩, List.mem_of_getElem? (i := 93) (by decide +kernel), by decide +kernel⟩
theorem m0_102 : M0K 102 := ⟨by decide +kernel, by decide +kernel⟩
theorem vk_101_77 : VK 101 77 102 0 2 := ⟨⟨List.mem_of_getElem? (i := 881) (by decide +kernel), by decide +kernel⟩, List.mem_of_getElem? (i := 882) (by decide +kernel), mo_102, m0_102, _, rfl, List.mem_of_getElem? (i := 883) (by decide +kernel), by decide⟩
theorem d_101_7 : decode (mC 101) 7 = .ok (.ifCond .eq 5, 3) := by decide +kernel
theorem d_101_12 : decode (mC 101) 12 = .ok (.iload_n 1, 1) := by decide +kernel
theorem d_101_13 : decode (mC 101) 13 = .ok (.istore_n 3, 1) := by decide +kernel
theorem d_101_14 : decode (mC 101) 14 = .ok (.iconst 0, 1) := by decide +kernel
theorem d_101_15 : decode (mC 101) 15 = .ok (.istore 4, 2) := by decide +kernel
theorem d_101_131 : decode (mC 101) 131 = .ok (.iload_n 3, 1) := by decide +kernel
theorem d_101_132 : decode (mC 101) 132 = .ok (.ireturn, 1) := by decide +kernel
theorem mr_101 : mR 101 = some .int := by decide +kernel
theorem d_101_10 : decode (mC 101) 10 = .ok (.iload_n 1, 1) := by decide +kernel
theorem d_101_11 : decode (mC 101) 11 = .ok (.ireturn, 1) := by decide +kernel
theorem d_100_80 : decode (mC 100) 80 = .ok (.aload_n 0, 1) := by decide +kernel
theorem d_100_81 : decode (mC 100) 81 = .ok (.dup, 1) := by decide +kernel
theorem d_100_82 : decode (mC 100) 82 = .ok (.getfield 24, 3) := by decide +kernel
theorem cn_100 : (mN 100).cls = "CordLoft$State" := by decide +kernel
theorem d_100_85 : decode (mC 100) 85 = .ok (.iconst 1, 1) := by decide +kernel
theorem d_100_86 : decode (mC 100) 86 = .ok (.iadd, 1) := by decide +kernel
theorem d_100_87 : decode (mC 100) 87 = .ok (.putfield 24, 3) := by decide +kernel
theorem d_100_90 : decode (mC 100) 90 = .ok (.return_, 1) := by decide +kernel
theorem mr_100 : mR 100 = none := by decide +kernel
theorem d_100_0 : decode (mC 100) 0 = .ok (.aload_n 0, 1) := by decide +kernel
theorem d_100_1 : decode (mC 100) 1 = .ok (.aload_n 1, 1) := by decide +kernel
theorem d_100_2 : decode (mC 100) 2 = .ok (.aload_n 0, 1) := by decide +kernel
theorem d_100_3 : decode (mC 100) 3 = .ok (.getfield 13, 3) := by decide +kernel
theorem d_100_6 : decode (mC 100) 6 = .ok (.aload_n 0, 1) := by decide +kernel
theorem d_100_7 : decode (mC 100) 7 = .ok (.getfield 24, 3) := by decide +kernel
theorem d_100_10 : decode (mC 100) 10 = .ok (.invokevirtual 33, 3) := by decide +kernel
theorem mo_101 : MOK 101 := ⟨List.mem_of_getElem? (i := 880) (by decide +kernel), by decide +kernel, ⟨by decide +kernel, by decide +kernel⟩, List.mem_of_getElem? (i := 92) (by decide +kernel), by decide +kernel⟩
theorem m0_101 : M0K 101 := ⟨by decide +kernel, by decide +kernel⟩
theorem vk_100_33 : VK 100 33 101 2 4 := ⟨⟨List.mem_of_getElem? (i := 877) (by decide +kernel), by decide +kernel⟩, List.mem_of_getElem? (i := 878) (by decide +kernel), mo_101, m0_101, _, rfl, List.mem_of_getElem? (i := 879) (by decide +kernel), by decide⟩
theorem d_100_13 : decode (mC 100) 13 = .ok (.putfield 13, 3) := by decide +kernel
theorem d_100_16 : decode (mC 100) 16 = .ok (.aload_n 0, 1) := by decide +kernel
theorem d_100_17 : decode (mC 100) 17 = .ok (.aload_n 0, 1) := by decide +kernel
theorem d_100_18 : decode (mC 100) 18 = .ok (.getfield 30, 3) := by decide +kernel
theorem d_100_21 : decode (mC 100) 21 = .ok (.sipush 137, 3) := by decide +kernel
theorem si_137 : (Int16.ofInt 137).toInt32 = 137 := by decide +kernel
theorem d_100_24 : decode (mC 100) 24 = .ok (.imul, 1) := by decide +kernel
theorem d_100_25 : decode (mC 100) 25 = .ok (.bipush 71, 2) := by decide +kernel
theorem bi_71 : (Int8.ofInt 71).toInt32 = 71 := by decide +kernel
theorem d_100_27 : decode (mC 100) 27 = .ok (.iadd, 1) := by decide +kernel
theorem d_100_28 : decode (mC 100) 28 = .ok (.sipush 1000, 3) := by decide +kernel
theorem si_1000 : (Int16.ofInt 1000).toInt32 = 1000 := by decide +kernel
theorem d_100_31 : decode (mC 100) 31 = .ok (.irem, 1) := by decide +kernel
theorem nz_1000 : ¬ (1000 : Int32) = 0 := by decide +kernel
theorem d_100_32 : decode (mC 100) 32 = .ok (.putfield 30, 3) := by decide +kernel
theorem d_100_35 : decode (mC 100) 35 = .ok (.iload_n 2, 1) := by decide +kernel
theorem d_100_36 : decode (mC 100) 36 = .ok (.ifCond .eq 44, 3) := by decide +kernel
theorem d_100_39 : decode (mC 100) 39 = .ok (.aload_n 1, 1) := by decide +kernel
theorem d_100_40 : decode (mC 100) 40 = .ok (.getfield 37, 3) := by decide +kernel
theorem fk_CordLoft_State_37 : FK 0 "CordLoft$State" 37 4 0 := ⟨⟨_, rfl, by decide, List.mem_of_getElem? (i := 229) (by decide +kernel)⟩, rfl, by decide⟩
theorem d_100_43 : decode (mC 100) 43 = .ok (.ifCond .le 37, 3) := by decide +kernel
theorem d_100_46 : decode (mC 100) 46 = .ok (.aload_n 0, 1) := by decide +kernel
theorem d_100_47 : decode (mC 100) 47 = .ok (.getfield 30, 3) := by decide +kernel
theorem d_100_50 : decode (mC 100) 50 = .ok (.bipush 100, 2) := by decide +kernel
theorem d_100_52 : decode (mC 100) 52 = .ok (.irem, 1) := by decide +kernel
theorem nz_100 : ¬ (100 : Int32) = 0 := by decide +kernel
theorem d_100_53 : decode (mC 100) 53 = .ok (.aload_n 1, 1) := by decide +kernel
theorem d_100_54 : decode (mC 100) 54 = .ok (.getfield 40, 3) := by decide +kernel
theorem fk_CordLoft_State_40 : FK 0 "CordLoft$State" 40 4 15 := ⟨⟨_, rfl, by decide, List.mem_of_getElem? (i := 274) (by decide +kernel)⟩, rfl, by decide⟩
theorem d_100_57 : decode (mC 100) 57 = .ok (.if_icmp .ge 23, 3) := by decide +kernel
theorem d_100_60 : decode (mC 100) 60 = .ok (.aload_n 0, 1) := by decide +kernel
theorem d_100_61 : decode (mC 100) 61 = .ok (.dup, 1) := by decide +kernel
theorem d_100_62 : decode (mC 100) 62 = .ok (.getfield 13, 3) := by decide +kernel
theorem d_100_65 : decode (mC 100) 65 = .ok (.iconst 1, 1) := by decide +kernel
theorem d_100_66 : decode (mC 100) 66 = .ok (.aload_n 0, 1) := by decide +kernel
theorem d_100_67 : decode (mC 100) 67 = .ok (.getfield 30, 3) := by decide +kernel
theorem d_100_70 : decode (mC 100) 70 = .ok (.aload_n 1, 1) := by decide +kernel
theorem d_100_71 : decode (mC 100) 71 = .ok (.getfield 37, 3) := by decide +kernel
theorem d_100_74 : decode (mC 100) 74 = .ok (.irem, 1) := by decide +kernel
theorem d_100_75 : decode (mC 100) 75 = .ok (.ishl, 1) := by decide +kernel
theorem d_100_76 : decode (mC 100) 76 = .ok (.ixor, 1) := by decide +kernel
theorem d_100_77 : decode (mC 100) 77 = .ok (.putfield 13, 3) := by decide +kernel
theorem ml_100 : mL 100 = 3 := by decide +kernel
theorem d_99_0 : decode (mC 99) 0 = .ok (.aload_n 0, 1) := by decide +kernel
theorem d_99_1 : decode (mC 99) 1 = .ok (.getfield 45, 3) := by decide +kernel
theorem cn_99 : (mN 99).cls = "CordLoft" := by decide +kernel
theorem d_99_4 : decode (mC 99) 4 = .ok (.invokevirtual 114, 3) := by decide +kernel
theorem vk_99_114 : VK 99 114 78 0 0 := ⟨⟨List.mem_of_getElem? (i := 784) (by decide +kernel), by decide +kernel⟩, List.mem_of_getElem? (i := 785) (by decide +kernel), mo_78, m0_78, _, rfl, List.mem_of_getElem? (i := 786) (by decide +kernel), by decide⟩
theorem d_99_7 : decode (mC 99) 7 = .ok (.getfield 185, 3) := by decide +kernel
theorem fk_CordLoft_185 : FK 0 "CordLoft" 185 8 3 := ⟨⟨_, rfl, by decide, List.mem_of_getElem? (i := 339) (by decide +kernel)⟩, rfl, by decide⟩
theorem d_99_10 : decode (mC 99) 10 = .ok (.sipush 999, 3) := by decide +kernel
theorem d_99_13 : decode (mC 99) 13 = .ok (.if_icmp .lt 5, 3) := by decide +kernel
theorem d_99_18 : decode (mC 99) 18 = .ok (.aload_n 0, 1) := by decide +kernel
theorem d_99_19 : decode (mC 99) 19 = .ok (.getfield 45, 3) := by decide +kernel
theorem d_99_22 : decode (mC 99) 22 = .ok (.invokevirtual 176, 3) := by decide +kernel
theorem vk_99_176 : VK 99 176 93 0 0 := ⟨⟨List.mem_of_getElem? (i := 845) (by decide +kernel), by decide +kernel⟩, List.mem_of_getElem? (i := 846) (by decide +kernel), mo_93, m0_93, _, rfl, List.mem_of_getElem? (i := 847) (by decide +kernel), by decide⟩
theorem d_99_25 : decode (mC 99) 25 = .ok (.astore_n 1, 1) := by decide +kernel
theorem ml_99 : mL 99 = 2 := by decide +kernel
theorem d_99_26 : decode (mC 99) 26 = .ok (.aload_n 1, 1) := by decide +kernel
theorem d_99_27 : decode (mC 99) 27 = .ok (.aload_n 0, 1) := by decide +kernel
theorem d_99_28 : decode (mC 99) 28 = .ok (.getfield 35, 3) := by decide +kernel
theorem d_99_31 : decode (mC 99) 31 = .ok (.iconst 1, 1) := by decide +kernel
theorem d_99_32 : decode (mC 99) 32 = .ok (.invokevirtual 188, 3) := by decide +kernel
theorem mo_100 : MOK 100 := ⟨List.mem_of_getElem? (i := 876) (by decide +kernel), by decide +kernel, ⟨by decide +kernel, by decide +kernel⟩, List.mem_of_getElem? (i := 95) (by decide +kernel), by decide +kernel⟩
theorem m0_100 : M0K 100 := ⟨by decide +kernel, by decide +kernel⟩
theorem vk_99_188 : VK 99 188 100 2 8 := ⟨⟨List.mem_of_getElem? (i := 873) (by decide +kernel), by decide +kernel⟩, List.mem_of_getElem? (i := 874) (by decide +kernel), mo_100, m0_100, _, rfl, List.mem_of_getElem? (i := 875) (by decide +kernel), by decide⟩
theorem d_99_35 : decode (mC 99) 35 = .ok (.aload_n 1, 1) := by decide +kernel
theorem d_99_36 : decode (mC 99) 36 = .ok (.getfield 140, 3) := by decide +kernel
theorem d_99_39 : decode (mC 99) 39 = .ok (.ireturn, 1) := by decide +kernel
theorem mr_99 : mR 99 = some .int := by decide +kernel
theorem d_99_16 : decode (mC 99) 16 = .ok (.iconst (-1), 1) := by decide +kernel
theorem d_99_17 : decode (mC 99) 17 = .ok (.ireturn, 1) := by decide +kernel
theorem d_109_0 : decode (mC 109) 0 = .ok (.aload_n 0, 1) := by decide +kernel
theorem d_109_1 : decode (mC 109) 1 = .ok (.getfield 16, 3) := by decide +kernel
theorem cn_109 : (mN 109).cls = "CordLoft$Acts" := by decide +kernel
theorem d_109_4 : decode (mC 109) 4 = .ok (.ifCond .gt 5, 3) := by decide +kernel
theorem d_109_9 : decode (mC 109) 9 = .ok (.aload_n 0, 1) := by decide +kernel
theorem d_109_10 : decode (mC 109) 10 = .ok (.dup, 1) := by decide +kernel
theorem d_109_11 : decode (mC 109) 11 = .ok (.getfield 16, 3) := by decide +kernel
theorem d_109_14 : decode (mC 109) 14 = .ok (.iconst 1, 1) := by decide +kernel
theorem d_109_15 : decode (mC 109) 15 = .ok (.isub, 1) := by decide +kernel
theorem d_109_16 : decode (mC 109) 16 = .ok (.putfield 16, 3) := by decide +kernel
theorem d_109_19 : decode (mC 109) 19 = .ok (.iconst 1, 1) := by decide +kernel
theorem d_109_20 : decode (mC 109) 20 = .ok (.ireturn, 1) := by decide +kernel
theorem mr_109 : mR 109 = some .boolean := by decide +kernel
theorem d_109_7 : decode (mC 109) 7 = .ok (.iconst 0, 1) := by decide +kernel
theorem d_109_8 : decode (mC 109) 8 = .ok (.ireturn, 1) := by decide +kernel
theorem ml_109 : mL 109 = 1 := by decide +kernel
theorem d_108_0 : decode (mC 108) 0 = .ok (.aload_n 0, 1) := by decide +kernel
theorem d_108_1 : decode (mC 108) 1 = .ok (.getfield 45, 3) := by decide +kernel
theorem cn_108 : (mN 108).cls = "CordLoft" := by decide +kernel
theorem d_108_4 : decode (mC 108) 4 = .ok (.invokevirtual 192, 3) := by decide +kernel
theorem mo_109 : MOK 109 := ⟨List.mem_of_getElem? (i := 912) (by decide +kernel), by decide +kernel, ⟨by decide +kernel, by decide +kernel⟩, List.mem_of_getElem? (i := 94) (by decide +kernel), by decide +kernel⟩
theorem m0_109 : M0K 109 := ⟨by decide +kernel, by decide +kernel⟩
theorem vk_108_192 : VK 108 192 109 0 0 := ⟨⟨List.mem_of_getElem? (i := 909) (by decide +kernel), by decide +kernel⟩, List.mem_of_getElem? (i := 910) (by decide +kernel), mo_109, m0_109, _, rfl, List.mem_of_getElem? (i := 911) (by decide +kernel), by decide⟩
theorem d_108_7 : decode (mC 108) 7 = .ok (.ireturn, 1) := by decide +kernel
theorem mr_108 : mR 108 = some .boolean := by decide +kernel
theorem ml_108 : mL 108 = 1 := by decide +kernel
theorem d_111_0 : decode (mC 111) 0 = .ok (.aload_n 0, 1) := by decide +kernel
theorem d_111_1 : decode (mC 111) 1 = .ok (.getfield 16, 3) := by decide +kernel
theorem cn_111 : (mN 111).cls = "CordLoft$Acts" := by decide +kernel
theorem d_111_4 : decode (mC 111) 4 = .ok (.aload_n 0, 1) := by decide +kernel
theorem d_111_5 : decode (mC 111) 5 = .ok (.getfield 23, 3) := by decide +kernel
theorem fk_CordLoft_Acts_23 : FK 0 "CordLoft$Acts" 23 0 2 := ⟨⟨_, rfl, by decide, List.mem_of_getElem? (i := 356) (by decide +kernel)⟩, rfl, by decide⟩
theorem d_111_8 : decode (mC 111) 8 = .ok (.if_icmp .lt 5, 3) := by decide +kernel
theorem d_111_13 : decode (mC 111) 13 = .ok (.aload_n 0, 1) := by decide +kernel
theorem d_111_14 : decode (mC 111) 14 = .ok (.dup, 1) := by decide +kernel
theorem d_111_15 : decode (mC 111) 15 = .ok (.getfield 16, 3) := by decide +kernel
theorem d_111_18 : decode (mC 111) 18 = .ok (.iconst 1, 1) := by decide +kernel
theorem d_111_19 : decode (mC 111) 19 = .ok (.iadd, 1) := by decide +kernel
theorem d_111_20 : decode (mC 111) 20 = .ok (.putfield 16, 3) := by decide +kernel
theorem d_111_23 : decode (mC 111) 23 = .ok (.iconst 1, 1) := by decide +kernel
theorem d_111_24 : decode (mC 111) 24 = .ok (.ireturn, 1) := by decide +kernel
theorem mr_111 : mR 111 = some .boolean := by decide +kernel
theorem d_111_11 : decode (mC 111) 11 = .ok (.iconst 0, 1) := by decide +kernel
theorem d_111_12 : decode (mC 111) 12 = .ok (.ireturn, 1) := by decide +kernel
theorem ml_111 : mL 111 = 1 := by decide +kernel
theorem d_110_0 : decode (mC 110) 0 = .ok (.aload_n 0, 1) := by decide +kernel
theorem d_110_1 : decode (mC 110) 1 = .ok (.getfield 45, 3) := by decide +kernel
theorem cn_110 : (mN 110).cls = "CordLoft" := by decide +kernel
theorem d_110_4 : decode (mC 110) 4 = .ok (.invokevirtual 196, 3) := by decide +kernel
theorem mo_111 : MOK 111 := ⟨List.mem_of_getElem? (i := 920) (by decide +kernel), by decide +kernel, ⟨by decide +kernel, by decide +kernel⟩, List.mem_of_getElem? (i := 94) (by decide +kernel), by decide +kernel⟩
theorem m0_111 : M0K 111 := ⟨by decide +kernel, by decide +kernel⟩
theorem vk_110_196 : VK 110 196 111 0 0 := ⟨⟨List.mem_of_getElem? (i := 917) (by decide +kernel), by decide +kernel⟩, List.mem_of_getElem? (i := 918) (by decide +kernel), mo_111, m0_111, _, rfl, List.mem_of_getElem? (i := 919) (by decide +kernel), by decide⟩
theorem d_110_7 : decode (mC 110) 7 = .ok (.ireturn, 1) := by decide +kernel
theorem mr_110 : mR 110 = some .boolean := by decide +kernel
theorem ml_110 : mL 110 = 1 := by decide +kernel
theorem d_112_60 : decode (mC 112) 60 = .ok (.invokevirtual 188, 3) := by decide +kernel
theorem vk_112_188 : VK 112 188 100 2 8 := ⟨⟨List.mem_of_getElem? (i := 873) (by decide +kernel), by decide +kernel⟩, List.mem_of_getElem? (i := 874) (by decide +kernel), mo_100, m0_100, _, rfl, List.mem_of_getElem? (i := 875) (by decide +kernel), by decide⟩
theorem d_112_63 : decode (mC 112) 63 = .ok (.iinc 3 1, 3) := by decide +kernel
theorem ml_112 : mL 112 = 4 := by decide +kernel
theorem d_112_66 : decode (mC 112) 66 = .ok (.goto (-29), 3) := by decide +kernel
theorem d_112_37 : decode (mC 112) 37 = .ok (.iload_n 3, 1) := by decide +kernel
theorem d_112_38 : decode (mC 112) 38 = .ok (.iload_n 1, 1) := by decide +kernel
theorem d_112_39 : decode (mC 112) 39 = .ok (.if_icmp .ge 30, 3) := by decide +kernel
theorem d_112_42 : decode (mC 112) 42 = .ok (.aload_n 0, 1) := by decide +kernel
theorem d_112_43 : decode (mC 112) 43 = .ok (.getfield 52, 3) := by decide +kernel
theorem fk_CordLoft_52 : FK 2 "CordLoft" 52 11 6 := ⟨⟨_, rfl, by decide, List.mem_of_getElem? (i := 489) (by decide +kernel)⟩, rfl, by decide⟩
theorem cn_112 : (mN 112).cls = "CordLoft" := by decide +kernel
theorem ft_12_6 : finT 12 6 = some (81, 0) := by decide +kernel
theorem k_81 : kd0 81 = 9 := by decide +kernel
theorem l_81 : ln0 81 = 5 := by decide +kernel
theorem d_112_46 : decode (mC 112) 46 = .ok (.aload_n 0, 1) := by decide +kernel
theorem d_112_47 : decode (mC 112) 47 = .ok (.getfield 35, 3) := by decide +kernel
theorem d_112_50 : decode (mC 112) 50 = .ok (.iload_n 2, 1) := by decide +kernel
theorem d_112_51 : decode (mC 112) 51 = .ok (.iconst 1, 1) := by decide +kernel
theorem d_112_52 : decode (mC 112) 52 = .ok (.if_icmp .ne 7, 3) := by decide +kernel
theorem d_112_59 : decode (mC 112) 59 = .ok (.iconst 0, 1) := by decide +kernel
theorem d_112_55 : decode (mC 112) 55 = .ok (.iconst 1, 1) := by decide +kernel
theorem d_112_56 : decode (mC 112) 56 = .ok (.goto 4, 3) := by decide +kernel
theorem d_112_0 : decode (mC 112) 0 = .ok (.iload_n 1, 1) := by decide +kernel
theorem d_112_1 : decode (mC 112) 1 = .ok (.ifCond .lt 18, 3) := by decide +kernel
theorem d_112_19 : decode (mC 112) 19 = .ok (.iconst (-1), 1) := by decide +kernel
theorem d_112_20 : decode (mC 112) 20 = .ok (.ireturn, 1) := by decide +kernel
theorem mr_112 : mR 112 = some .int := by decide +kernel
theorem d_112_4 : decode (mC 112) 4 = .ok (.iload_n 1, 1) := by decide +kernel
theorem d_112_5 : decode (mC 112) 5 = .ok (.bipush 60, 2) := by decide +kernel
theorem d_112_7 : decode (mC 112) 7 = .ok (.if_icmp .gt 12, 3) := by decide +kernel
theorem d_112_10 : decode (mC 112) 10 = .ok (.iload_n 2, 1) := by decide +kernel
theorem d_112_11 : decode (mC 112) 11 = .ok (.ifCond .lt 8, 3) := by decide +kernel
theorem d_112_14 : decode (mC 112) 14 = .ok (.iload_n 2, 1) := by decide +kernel
theorem d_112_15 : decode (mC 112) 15 = .ok (.iconst 1, 1) := by decide +kernel
theorem d_112_16 : decode (mC 112) 16 = .ok (.if_icmp .le 5, 3) := by decide +kernel
theorem d_112_21 : decode (mC 112) 21 = .ok (.aload_n 0, 1) := by decide +kernel
theorem d_112_22 : decode (mC 112) 22 = .ok (.getfield 52, 3) := by decide +kernel
theorem d_112_25 : decode (mC 112) 25 = .ok (.aload_n 0, 1) := by decide +kernel
theorem d_112_26 : decode (mC 112) 26 = .ok (.getfield 45, 3) := by decide +kernel
theorem d_112_29 : decode (mC 112) 29 = .ok (.invokevirtual 114, 3) := by decide +kernel
theorem vk_112_114 : VK 112 114 78 0 0 := ⟨⟨List.mem_of_getElem? (i := 784) (by decide +kernel), by decide +kernel⟩, List.mem_of_getElem? (i := 785) (by decide +kernel), mo_78, m0_78, _, rfl, List.mem_of_getElem? (i := 786) (by decide +kernel), by decide⟩
theorem d_112_32 : decode (mC 112) 32 = .ok (.invokevirtual 199, 3) := by decide +kernel
theorem vk_112_199 : VK 112 199 95 1 8 := ⟨⟨List.mem_of_getElem? (i := 925) (by decide +kernel), by decide +kernel⟩, List.mem_of_getElem? (i := 854) (by decide +kernel), mo_95, m0_95, _, rfl, List.mem_of_getElem? (i := 855) (by decide +kernel), by decide⟩
theorem d_112_35 : decode (mC 112) 35 = .ok (.iconst 0, 1) := by decide +kernel
theorem d_112_36 : decode (mC 112) 36 = .ok (.istore_n 3, 1) := by decide +kernel
theorem d_112_69 : decode (mC 112) 69 = .ok (.aload_n 0, 1) := by decide +kernel
theorem d_112_70 : decode (mC 112) 70 = .ok (.getfield 52, 3) := by decide +kernel
theorem d_112_73 : decode (mC 112) 73 = .ok (.getfield 140, 3) := by decide +kernel
theorem d_112_76 : decode (mC 112) 76 = .ok (.ireturn, 1) := by decide +kernel
theorem d_115_0 : decode (mC 115) 0 = .ok (.iconst 1, 1) := by decide +kernel
theorem d_115_1 : decode (mC 115) 1 = .ok (.aload_n 0, 1) := by decide +kernel
theorem d_115_2 : decode (mC 115) 2 = .ok (.getfield 51, 3) := by decide +kernel
theorem cn_115 : (mN 115).cls = "CordLoft$Plan" := by decide +kernel
theorem d_115_5 : decode (mC 115) 5 = .ok (.ishl, 1) := by decide +kernel
theorem d_115_6 : decode (mC 115) 6 = .ok (.ireturn, 1) := by decide +kernel
theorem mr_115 : mR 115 = some .int := by decide +kernel
theorem ml_115 : mL 115 = 1 := by decide +kernel
theorem d_114_0 : decode (mC 114) 0 = .ok (.iload_n 1, 1) := by decide +kernel
theorem d_114_1 : decode (mC 114) 1 = .ok (.ifCond .lt 15, 3) := by decide +kernel
theorem d_114_16 : decode (mC 114) 16 = .ok (.iconst 0, 1) := by decide +kernel
theorem d_114_17 : decode (mC 114) 17 = .ok (.ireturn, 1) := by decide +kernel
theorem mr_114 : mR 114 = some .boolean := by decide +kernel
theorem d_114_4 : decode (mC 114) 4 = .ok (.iload_n 1, 1) := by decide +kernel
theorem d_114_5 : decode (mC 114) 5 = .ok (.aload_n 0, 1) := by decide +kernel
theorem d_114_6 : decode (mC 114) 6 = .ok (.invokevirtual 73, 3) := by decide +kernel
theorem mo_115 : MOK 115 := ⟨List.mem_of_getElem? (i := 937) (by decide +kernel), by decide +kernel, ⟨by decide +kernel, by decide +kernel⟩, List.mem_of_getElem? (i := 92) (by decide +kernel), by decide +kernel⟩
theorem m0_115 : M0K 115 := ⟨by decide +kernel, by decide +kernel⟩
theorem vk_114_73 : VK 114 73 115 0 4 := ⟨⟨List.mem_of_getElem? (i := 934) (by decide +kernel), by decide +kernel⟩, List.mem_of_getElem? (i := 935) (by decide +kernel), mo_115, m0_115, _, rfl, List.mem_of_getElem? (i := 936) (by decide +kernel), by decide⟩
theorem d_114_9 : decode (mC 114) 9 = .ok (.if_icmp .ge 7, 3) := by decide +kernel
theorem d_114_12 : decode (mC 114) 12 = .ok (.iconst 1, 1) := by decide +kernel
theorem d_114_13 : decode (mC 114) 13 = .ok (.goto 4, 3) := by decide +kernel
theorem ml_114 : mL 114 = 2 := by decide +kernel
theorem d_117_0 : decode (mC 117) 0 = .ok (.iconst 1, 1) := by decide +kernel
theorem d_117_1 : decode (mC 117) 1 = .ok (.aload_n 0, 1) := by decide +kernel
theorem d_117_2 : decode (mC 117) 2 = .ok (.getfield 58, 3) := by decide +kernel
theorem cn_117 : (mN 117).cls = "CordLoft$Plan" := by decide +kernel
theorem d_117_5 : decode (mC 117) 5 = .ok (.ishl, 1) := by decide +kernel
theorem d_117_6 : decode (mC 117) 6 = .ok (.iconst 1, 1) := by decide +kernel
theorem d_117_7 : decode (mC 117) 7 = .ok (.isub, 1) := by decide +kernel
theorem d_117_8 : decode (mC 117) 8 = .ok (.ireturn, 1) := by decide +kernel
theorem mr_117 : mR 117 = some .int := by decide +kernel
theorem ml_117 : mL 117 = 1 := by decide +kernel
theorem d_116_6 : decode (mC 116) 6 = .ok (.iload 5, 2) := by decide +kernel
theorem d_116_8 : decode (mC 116) 8 = .ok (.aload_n 1, 1) := by decide +kernel
theorem d_116_9 : decode (mC 116) 9 = .ok (.invokevirtual 33, 3) := by decide +kernel
theorem mo_117 : MOK 117 := ⟨List.mem_of_getElem? (i := 945) (by decide +kernel), by decide +kernel, ⟨by decide +kernel, by decide +kernel⟩, List.mem_of_getElem? (i := 92) (by decide +kernel), by decide +kernel⟩
theorem m0_117 : M0K 117 := ⟨by decide +kernel, by decide +kernel⟩
theorem vk_116_33 : VK 116 33 117 0 4 := ⟨⟨List.mem_of_getElem? (i := 942) (by decide +kernel), by decide +kernel⟩, List.mem_of_getElem? (i := 943) (by decide +kernel), mo_117, m0_117, _, rfl, List.mem_of_getElem? (i := 944) (by decide +kernel), by decide⟩
theorem d_116_12 : decode (mC 116) 12 = .ok (.if_icmp .gt 38, 3) := by decide +kernel
theorem d_116_15 : decode (mC 116) 15 = .ok (.iload 5, 2) := by decide +kernel
theorem d_116_17 : decode (mC 116) 17 = .ok (.aload_n 2, 1) := by decide +kernel
theorem d_116_18 : decode (mC 116) 18 = .ok (.getfield 37, 3) := by decide +kernel
theorem fk_CordLoft_Sets_37 : FK 0 "CordLoft$Sets" 37 8 1 := ⟨⟨_, rfl, by decide, List.mem_of_getElem? (i := 333) (by decide +kernel)⟩, rfl, by decide⟩
theorem cn_116 : (mN 116).cls = "CordLoft$Sets" := by decide +kernel
theorem d_116_21 : decode (mC 116) 21 = .ok (.iand, 1) := by decide +kernel
theorem d_116_22 : decode (mC 116) 22 = .ok (.ifCond .ne 22, 3) := by decide +kernel
theorem d_116_44 : decode (mC 116) 44 = .ok (.iinc 5 1, 3) := by decide +kernel
theorem ml_116 : mL 116 = 6 := by decide +kernel
theorem d_116_47 : decode (mC 116) 47 = .ok (.goto (-41), 3) := by decide +kernel
theorem d_116_25 : decode (mC 116) 25 = .ok (.aload_n 2, 1) := by decide +kernel
theorem d_116_26 : decode (mC 116) 26 = .ok (.getfield 43, 3) := by decide +kernel
theorem fk_CordLoft_Sets_43 : FK 0 "CordLoft$Sets" 43 8 0 := ⟨⟨_, rfl, by decide, List.mem_of_getElem? (i := 329) (by decide +kernel)⟩, rfl, by decide⟩
theorem d_116_29 : decode (mC 116) 29 = .ok (.aload_n 1, 1) := by decide +kernel
theorem d_116_30 : decode (mC 116) 30 = .ok (.getfield 46, 3) := by decide +kernel
theorem fk_CordLoft_Sets_46 : FK 2 "CordLoft$Sets" 46 4 10 := ⟨⟨_, rfl, by decide, List.mem_of_getElem? (i := 261) (by decide +kernel)⟩, rfl, by decide⟩
theorem d_116_33 : decode (mC 116) 33 = .ok (.iload 5, 2) := by decide +kernel
theorem d_116_35 : decode (mC 116) 35 = .ok (.iaload, 1) := by decide +kernel
theorem d_116_36 : decode (mC 116) 36 = .ok (.ixor, 1) := by decide +kernel
theorem d_116_37 : decode (mC 116) 37 = .ok (.iload_n 3, 1) := by decide +kernel
theorem d_116_38 : decode (mC 116) 38 = .ok (.if_icmp .ne 6, 3) := by decide +kernel
theorem d_116_41 : decode (mC 116) 41 = .ok (.iinc 4 1, 3) := by decide +kernel
theorem k_86 : kd0 86 = 7 := by decide +kernel
theorem d_116_0 : decode (mC 116) 0 = .ok (.iconst 0, 1) := by decide +kernel
theorem d_116_1 : decode (mC 116) 1 = .ok (.istore 4, 2) := by decide +kernel
theorem d_116_3 : decode (mC 116) 3 = .ok (.iconst 0, 1) := by decide +kernel
theorem d_116_4 : decode (mC 116) 4 = .ok (.istore 5, 2) := by decide +kernel
theorem d_116_50 : decode (mC 116) 50 = .ok (.iload 4, 2) := by decide +kernel
theorem d_116_52 : decode (mC 116) 52 = .ok (.ireturn, 1) := by decide +kernel
theorem mr_116 : mR 116 = some .int := by decide +kernel
theorem d_113_0 : decode (mC 113) 0 = .ok (.aload_n 0, 1) := by decide +kernel
theorem d_113_1 : decode (mC 113) 1 = .ok (.getfield 35, 3) := by decide +kernel
theorem cn_113 : (mN 113).cls = "CordLoft" := by decide +kernel
theorem d_113_4 : decode (mC 113) 4 = .ok (.iload_n 1, 1) := by decide +kernel
theorem d_113_5 : decode (mC 113) 5 = .ok (.invokevirtual 203, 3) := by decide +kernel
theorem mo_114 : MOK 114 := ⟨List.mem_of_getElem? (i := 933) (by decide +kernel), by decide +kernel, ⟨by decide +kernel, by decide +kernel⟩, List.mem_of_getElem? (i := 92) (by decide +kernel), by decide +kernel⟩
theorem m0_114 : M0K 114 := ⟨by decide +kernel, by decide +kernel⟩
theorem vk_113_203 : VK 113 203 114 1 4 := ⟨⟨List.mem_of_getElem? (i := 930) (by decide +kernel), by decide +kernel⟩, List.mem_of_getElem? (i := 931) (by decide +kernel), mo_114, m0_114, _, rfl, List.mem_of_getElem? (i := 932) (by decide +kernel), by decide⟩
theorem d_113_8 : decode (mC 113) 8 = .ok (.ifCond .ne 5, 3) := by decide +kernel
theorem d_113_13 : decode (mC 113) 13 = .ok (.aload_n 0, 1) := by decide +kernel
theorem d_113_14 : decode (mC 113) 14 = .ok (.getfield 67, 3) := by decide +kernel
theorem fk_CordLoft_67 : FK 2 "CordLoft" 67 11 9 := ⟨⟨_, rfl, by decide, List.mem_of_getElem? (i := 492) (by decide +kernel)⟩, rfl, by decide⟩
theorem ft_12_9 : finT 12 9 = some (86, 0) := by decide +kernel
theorem l_86 : ln0 86 = 7 := by decide +kernel
theorem d_113_17 : decode (mC 113) 17 = .ok (.aload_n 0, 1) := by decide +kernel
theorem d_113_18 : decode (mC 113) 18 = .ok (.getfield 35, 3) := by decide +kernel
theorem d_113_21 : decode (mC 113) 21 = .ok (.aload_n 0, 1) := by decide +kernel
theorem d_113_22 : decode (mC 113) 22 = .ok (.getfield 45, 3) := by decide +kernel
theorem d_113_25 : decode (mC 113) 25 = .ok (.invokevirtual 114, 3) := by decide +kernel
theorem vk_113_114 : VK 113 114 78 0 0 := ⟨⟨List.mem_of_getElem? (i := 784) (by decide +kernel), by decide +kernel⟩, List.mem_of_getElem? (i := 785) (by decide +kernel), mo_78, m0_78, _, rfl, List.mem_of_getElem? (i := 786) (by decide +kernel), by decide⟩
theorem d_113_28 : decode (mC 113) 28 = .ok (.iload_n 1, 1) := by decide +kernel
theorem d_113_29 : decode (mC 113) 29 = .ok (.invokevirtual 206, 3) := by decide +kernel
theorem mo_116 : MOK 116 := ⟨List.mem_of_getElem? (i := 941) (by decide +kernel), by decide +kernel, ⟨by decide +kernel, by decide +kernel⟩, List.mem_of_getElem? (i := 96) (by decide +kernel), by decide +kernel⟩
theorem m0_116 : M0K 116 := ⟨by decide +kernel, by decide +kernel⟩
theorem vk_113_206 : VK 113 206 116 3 6 := ⟨⟨List.mem_of_getElem? (i := 938) (by decide +kernel), by decide +kernel⟩, List.mem_of_getElem? (i := 939) (by decide +kernel), mo_116, m0_116, _, rfl, List.mem_of_getElem? (i := 940) (by decide +kernel), by decide⟩
theorem d_113_32 : decode (mC 113) 32 = .ok (.ifCond .le 7, 3) := by decide +kernel
theorem d_113_39 : decode (mC 113) 39 = .ok (.iconst 0, 1) := by decide +kernel
theorem d_113_40 : decode (mC 113) 40 = .ok (.ireturn, 1) := by decide +kernel
theorem mr_113 : mR 113 = some .int := by decide +kernel
theorem d_113_35 : decode (mC 113) 35 = .ok (.iconst 1, 1) := by decide +kernel
theorem d_113_36 : decode (mC 113) 36 = .ok (.goto 4, 3) := by decide +kernel
theorem d_113_11 : decode (mC 113) 11 = .ok (.iconst (-1), 1) := by decide +kernel
theorem d_113_12 : decode (mC 113) 12 = .ok (.ireturn, 1) := by decide +kernel
theorem ml_113 : mL 113 = 2 := by decide +kernel
theorem k_87 : kd0 87 = 2 := by decide +kernel
theorem d_120_0 : decode (mC 120) 0 = .ok (.aload_n 0, 1) := by decide +kernel
theorem d_120_1 : decode (mC 120) 1 = .ok (.iconst 0, 1) := by decide +kernel
theorem d_120_2 : decode (mC 120) 2 = .ok (.putfield 9, 3) := by decide +kernel
theorem fp_CordLoft_Best_9 : FP 0 "CordLoft$Best" 9 1 0 := ⟨⟨_, rfl, by decide, List.mem_of_getElem? (i := 379) (by decide +kernel), rfl⟩, rfl, by decide, by decide +kernel⟩
theorem cn_120 : (mN 120).cls = "CordLoft$Best" := by decide +kernel
theorem d_120_5 : decode (mC 120) 5 = .ok (.aload_n 0, 1) := by decide +kernel
theorem d_120_6 : decode (mC 120) 6 = .ok (.iconst (-1), 1) := by decide +kernel
theorem d_120_7 : decode (mC 120) 7 = .ok (.putfield 15, 3) := by decide +kernel
theorem fp_CordLoft_Best_15 : FP 0 "CordLoft$Best" 15 1 1 := ⟨⟨_, rfl, by decide, List.mem_of_getElem? (i := 381) (by decide +kernel), rfl⟩, rfl, by decide, by decide +kernel⟩
theorem d_120_10 : decode (mC 120) 10 = .ok (.return_, 1) := by decide +kernel
theorem mr_120 : mR 120 = none := by decide +kernel
theorem ml_120 : mL 120 = 1 := by decide +kernel
theorem d_121_31 : decode (mC 121) 31 = .ok (.aload_n 0, 1) := by decide +kernel
theorem d_121_32 : decode (mC 121) 32 = .ok (.iload_n 1, 1) := by decide +kernel
theorem d_121_33 : decode (mC 121) 33 = .ok (.putfield 9, 3) := by decide +kernel
theorem cn_121 : (mN 121).cls = "CordLoft$Best" := by decide +kernel
theorem d_121_36 : decode (mC 121) 36 = .ok (.aload_n 0, 1) := by decide +kernel
theorem d_121_37 : decode (mC 121) 37 = .ok (.iload_n 2, 1) := by decide +kernel
theorem d_121_38 : decode (mC 121) 38 = .ok (.putfield 15, 3) := by decide +kernel
theorem d_121_41 : decode (mC 121) 41 = .ok (.return_, 1) := by decide +kernel
theorem mr_121 : mR 121 = none := by decide +kernel
theorem d_121_0 : decode (mC 121) 0 = .ok (.aload_n 0, 1) := by decide +kernel
theorem d_121_1 : decode (mC 121) 1 = .ok (.getfield 15, 3) := by decide +kernel
theorem fk_CordLoft_Best_15 : FK 0 "CordLoft$Best" 15 1 1 := ⟨⟨_, rfl, by decide, List.mem_of_getElem? (i := 381) (by decide +kernel)⟩, rfl, by decide⟩
theorem d_121_4 : decode (mC 121) 4 = .ok (.ifCond .lt 27, 3) := by decide +kernel
theorem d_121_7 : decode (mC 121) 7 = .ok (.iload_n 1, 1) := by decide +kernel
theorem d_121_8 : decode (mC 121) 8 = .ok (.aload_n 0, 1) := by decide +kernel
theorem d_121_9 : decode (mC 121) 9 = .ok (.getfield 9, 3) := by decide +kernel
theorem fk_CordLoft_Best_9 : FK 0 "CordLoft$Best" 9 1 0 := ⟨⟨_, rfl, by decide, List.mem_of_getElem? (i := 379) (by decide +kernel)⟩, rfl, by decide⟩
theorem d_121_12 : decode (mC 121) 12 = .ok (.if_icmp .lt 19, 3) := by decide +kernel
theorem d_121_15 : decode (mC 121) 15 = .ok (.iload_n 1, 1) := by decide +kernel
theorem d_121_16 : decode (mC 121) 16 = .ok (.aload_n 0, 1) := by decide +kernel
theorem d_121_17 : decode (mC 121) 17 = .ok (.getfield 9, 3) := by decide +kernel
theorem d_121_20 : decode (mC 121) 20 = .ok (.if_icmp .ne 21, 3) := by decide +kernel
theorem d_121_23 : decode (mC 121) 23 = .ok (.iload_n 2, 1) := by decide +kernel
theorem d_121_24 : decode (mC 121) 24 = .ok (.aload_n 0, 1) := by decide +kernel
theorem d_121_25 : decode (mC 121) 25 = .ok (.getfield 15, 3) := by decide +kernel
theorem d_121_28 : decode (mC 121) 28 = .ok (.if_icmp .ge 13, 3) := by decide +kernel
theorem ml_121 : mL 121 = 3 := by decide +kernel
theorem d_119_10 : decode (mC 119) 10 = .ok (.iload 4, 2) := by decide +kernel
theorem d_119_12 : decode (mC 119) 12 = .ok (.aload_n 1, 1) := by decide +kernel
theorem d_119_13 : decode (mC 119) 13 = .ok (.invokevirtual 33, 3) := by decide +kernel
theorem vk_119_33 : VK 119 33 117 0 4 := ⟨⟨List.mem_of_getElem? (i := 942) (by decide +kernel), by decide +kernel⟩, List.mem_of_getElem? (i := 943) (by decide +kernel), mo_117, m0_117, _, rfl, List.mem_of_getElem? (i := 944) (by decide +kernel), by decide⟩
theorem d_119_16 : decode (mC 119) 16 = .ok (.if_icmp .gt 49, 3) := by decide +kernel
theorem d_119_19 : decode (mC 119) 19 = .ok (.iload 4, 2) := by decide +kernel
theorem d_119_21 : decode (mC 119) 21 = .ok (.aload_n 2, 1) := by decide +kernel
theorem d_119_22 : decode (mC 119) 22 = .ok (.getfield 37, 3) := by decide +kernel
theorem cn_119 : (mN 119).cls = "CordLoft$Sets" := by decide +kernel
theorem d_119_25 : decode (mC 119) 25 = .ok (.iand, 1) := by decide +kernel
theorem d_119_26 : decode (mC 119) 26 = .ok (.ifCond .ne 33, 3) := by decide +kernel
theorem d_119_59 : decode (mC 119) 59 = .ok (.iinc 4 1, 3) := by decide +kernel
theorem ml_119 : mL 119 = 5 := by decide +kernel
theorem d_119_62 : decode (mC 119) 62 = .ok (.goto (-52), 3) := by decide +kernel
theorem d_119_29 : decode (mC 119) 29 = .ok (.aload_n 2, 1) := by decide +kernel
theorem d_119_30 : decode (mC 119) 30 = .ok (.getfield 43, 3) := by decide +kernel
theorem d_119_33 : decode (mC 119) 33 = .ok (.aload_n 1, 1) := by decide +kernel
theorem d_119_34 : decode (mC 119) 34 = .ok (.getfield 46, 3) := by decide +kernel
theorem d_119_37 : decode (mC 119) 37 = .ok (.iload 4, 2) := by decide +kernel
theorem d_119_39 : decode (mC 119) 39 = .ok (.iaload, 1) := by decide +kernel
theorem d_119_40 : decode (mC 119) 40 = .ok (.ixor, 1) := by decide +kernel
theorem d_119_41 : decode (mC 119) 41 = .ok (.iload_n 3, 1) := by decide +kernel
theorem d_119_42 : decode (mC 119) 42 = .ok (.if_icmp .ne 17, 3) := by decide +kernel
theorem d_119_45 : decode (mC 119) 45 = .ok (.aload_n 0, 1) := by decide +kernel
theorem d_119_46 : decode (mC 119) 46 = .ok (.getfield 12, 3) := by decide +kernel
theorem fk_CordLoft_Sets_12 : FK 2 "CordLoft$Sets" 12 6 0 := ⟨⟨_, rfl, by decide, List.mem_of_getElem? (i := 388) (by decide +kernel)⟩, rfl, by decide⟩
theorem ft_7_0 : finT 7 0 = some (87, 0) := by decide +kernel
theorem l_87 : ln0 87 = 2 := by decide +kernel
theorem d_119_49 : decode (mC 119) 49 = .ok (.iload 4, 2) := by decide +kernel
theorem d_119_51 : decode (mC 119) 51 = .ok (.invokestatic 52, 3) := by decide +kernel
theorem sk_119_52 : SKc 119 52 92 1 := ⟨⟨List.mem_of_getElem? (i := 958) (by decide +kernel), by decide +kernel⟩, List.mem_of_getElem? (i := 840) (by decide +kernel), mo_92, m0_92⟩
theorem d_119_54 : decode (mC 119) 54 = .ok (.iload 4, 2) := by decide +kernel
theorem d_119_56 : decode (mC 119) 56 = .ok (.invokevirtual 58, 3) := by decide +kernel
theorem mo_121 : MOK 121 := ⟨List.mem_of_getElem? (i := 962) (by decide +kernel), by decide +kernel, ⟨by decide +kernel, by decide +kernel⟩, List.mem_of_getElem? (i := 97) (by decide +kernel), by decide +kernel⟩
theorem m0_121 : M0K 121 := ⟨by decide +kernel, by decide +kernel⟩
theorem vk_119_58 : VK 119 58 121 2 1 := ⟨⟨List.mem_of_getElem? (i := 959) (by decide +kernel), by decide +kernel⟩, List.mem_of_getElem? (i := 960) (by decide +kernel), mo_121, m0_121, _, rfl, List.mem_of_getElem? (i := 961) (by decide +kernel), by decide⟩
theorem d_119_0 : decode (mC 119) 0 = .ok (.aload_n 0, 1) := by decide +kernel
theorem d_119_1 : decode (mC 119) 1 = .ok (.getfield 12, 3) := by decide +kernel
theorem d_119_4 : decode (mC 119) 4 = .ok (.invokevirtual 49, 3) := by decide +kernel
theorem mo_120 : MOK 120 := ⟨List.mem_of_getElem? (i := 957) (by decide +kernel), by decide +kernel, ⟨by decide +kernel, by decide +kernel⟩, List.mem_of_getElem? (i := 97) (by decide +kernel), by decide +kernel⟩
theorem m0_120 : M0K 120 := ⟨by decide +kernel, by decide +kernel⟩
theorem vk_119_49 : VK 119 49 120 0 1 := ⟨⟨List.mem_of_getElem? (i := 954) (by decide +kernel), by decide +kernel⟩, List.mem_of_getElem? (i := 955) (by decide +kernel), mo_120, m0_120, _, rfl, List.mem_of_getElem? (i := 956) (by decide +kernel), by decide⟩
theorem d_119_7 : decode (mC 119) 7 = .ok (.iconst 0, 1) := by decide +kernel
theorem d_119_8 : decode (mC 119) 8 = .ok (.istore 4, 2) := by decide +kernel
theorem d_119_65 : decode (mC 119) 65 = .ok (.aload_n 0, 1) := by decide +kernel
theorem d_119_66 : decode (mC 119) 66 = .ok (.getfield 12, 3) := by decide +kernel
theorem d_119_69 : decode (mC 119) 69 = .ok (.getfield 62, 3) := by decide +kernel
theorem fk_CordLoft_Sets_62 : FK 0 "CordLoft$Sets" 62 1 1 := ⟨⟨_, rfl, by decide, List.mem_of_getElem? (i := 382) (by decide +kernel)⟩, rfl, by decide⟩
theorem d_119_72 : decode (mC 119) 72 = .ok (.ireturn, 1) := by decide +kernel
theorem mr_119 : mR 119 = some .int := by decide +kernel
theorem d_118_0 : decode (mC 118) 0 = .ok (.aload_n 0, 1) := by decide +kernel
theorem d_118_1 : decode (mC 118) 1 = .ok (.getfield 67, 3) := by decide +kernel
theorem cn_118 : (mN 118).cls = "CordLoft" := by decide +kernel
theorem d_118_4 : decode (mC 118) 4 = .ok (.aload_n 0, 1) := by decide +kernel
theorem d_118_5 : decode (mC 118) 5 = .ok (.getfield 35, 3) := by decide +kernel
theorem d_118_8 : decode (mC 118) 8 = .ok (.aload_n 0, 1) := by decide +kernel
theorem d_118_9 : decode (mC 118) 9 = .ok (.getfield 45, 3) := by decide +kernel
theorem d_118_12 : decode (mC 118) 12 = .ok (.invokevirtual 114, 3) := by decide +kernel
theorem vk_118_114 : VK 118 114 78 0 0 := ⟨⟨List.mem_of_getElem? (i := 784) (by decide +kernel), by decide +kernel⟩, List.mem_of_getElem? (i := 785) (by decide +kernel), mo_78, m0_78, _, rfl, List.mem_of_getElem? (i := 786) (by decide +kernel), by decide⟩
theorem d_118_15 : decode (mC 118) 15 = .ok (.iload_n 1, 1) := by decide +kernel
theorem d_118_16 : decode (mC 118) 16 = .ok (.invokevirtual 210, 3) := by decide +kernel
theorem mo_119 : MOK 119 := ⟨List.mem_of_getElem? (i := 953) (by decide +kernel), by decide +kernel, ⟨by decide +kernel, by decide +kernel⟩, List.mem_of_getElem? (i := 96) (by decide +kernel), by decide +kernel⟩
theorem m0_119 : M0K 119 := ⟨by decide +kernel, by decide +kernel⟩
theorem vk_118_210 : VK 118 210 119 3 6 := ⟨⟨List.mem_of_getElem? (i := 950) (by decide +kernel), by decide +kernel⟩, List.mem_of_getElem? (i := 951) (by decide +kernel), mo_119, m0_119, _, rfl, List.mem_of_getElem? (i := 952) (by decide +kernel), by decide⟩
theorem d_118_19 : decode (mC 118) 19 = .ok (.istore_n 3, 1) := by decide +kernel
theorem ml_118 : mL 118 = 4 := by decide +kernel
theorem d_118_20 : decode (mC 118) 20 = .ok (.iload_n 3, 1) := by decide +kernel
theorem d_118_21 : decode (mC 118) 21 = .ok (.ifCond .ge 7, 3) := by decide +kernel
theorem d_118_28 : decode (mC 118) 28 = .ok (.iload_n 2, 1) := by decide +kernel
theorem d_118_29 : decode (mC 118) 29 = .ok (.iload_n 3, 1) := by decide +kernel
theorem d_118_30 : decode (mC 118) 30 = .ok (.invokestatic 167, 3) := by decide +kernel
theorem sk_118_167 : SKc 118 167 92 1 := ⟨⟨List.mem_of_getElem? (i := 839) (by decide +kernel), by decide +kernel⟩, List.mem_of_getElem? (i := 840) (by decide +kernel), mo_92, m0_92⟩
theorem d_118_33 : decode (mC 118) 33 = .ok (.iload_n 3, 1) := by decide +kernel
theorem d_118_34 : decode (mC 118) 34 = .ok (.invokestatic 132, 3) := by decide +kernel
theorem sk_118_132 : SKc 118 132 84 3 := ⟨⟨List.mem_of_getElem? (i := 808) (by decide +kernel), by decide +kernel⟩, List.mem_of_getElem? (i := 809) (by decide +kernel), mo_84, m0_84⟩
theorem d_118_37 : decode (mC 118) 37 = .ok (.ireturn, 1) := by decide +kernel
theorem mr_118 : mR 118 = some .int := by decide +kernel
theorem d_118_24 : decode (mC 118) 24 = .ok (.iconst (-1), 1) := by decide +kernel
theorem d_118_25 : decode (mC 118) 25 = .ok (.goto 12, 3) := by decide +kernel
theorem d_124_4 : decode (mC 124) 4 = .ok (.iload_n 3, 1) := by decide +kernel
theorem d_124_5 : decode (mC 124) 5 = .ok (.aload_n 0, 1) := by decide +kernel
theorem d_124_6 : decode (mC 124) 6 = .ok (.getfield 58, 3) := by decide +kernel
theorem cn_124 : (mN 124).cls = "CordLoft$Plan" := by decide +kernel
theorem d_124_9 : decode (mC 124) 9 = .ok (.if_icmp .ge 24, 3) := by decide +kernel
theorem d_124_12 : decode (mC 124) 12 = .ok (.iload_n 2, 1) := by decide +kernel
theorem d_124_13 : decode (mC 124) 13 = .ok (.iload_n 1, 1) := by decide +kernel
theorem d_124_14 : decode (mC 124) 14 = .ok (.iload_n 3, 1) := by decide +kernel
theorem d_124_15 : decode (mC 124) 15 = .ok (.ishr, 1) := by decide +kernel
theorem d_124_16 : decode (mC 124) 16 = .ok (.iconst 1, 1) := by decide +kernel
theorem d_124_17 : decode (mC 124) 17 = .ok (.iand, 1) := by decide +kernel
theorem d_124_18 : decode (mC 124) 18 = .ok (.aload_n 0, 1) := by decide +kernel
theorem d_124_19 : decode (mC 124) 19 = .ok (.getfield 31, 3) := by decide +kernel
theorem d_124_22 : decode (mC 124) 22 = .ok (.iload_n 3, 1) := by decide +kernel
theorem d_124_23 : decode (mC 124) 23 = .ok (.iaload, 1) := by decide +kernel
theorem d_124_24 : decode (mC 124) 24 = .ok (.imul, 1) := by decide +kernel
theorem d_124_25 : decode (mC 124) 25 = .ok (.iadd, 1) := by decide +kernel
theorem d_124_26 : decode (mC 124) 26 = .ok (.istore_n 2, 1) := by decide +kernel
theorem ml_124 : mL 124 = 4 := by decide +kernel
theorem d_124_27 : decode (mC 124) 27 = .ok (.iinc 3 1, 3) := by decide +kernel
theorem d_124_30 : decode (mC 124) 30 = .ok (.goto (-26), 3) := by decide +kernel
theorem d_124_0 : decode (mC 124) 0 = .ok (.iconst 0, 1) := by decide +kernel
theorem d_124_1 : decode (mC 124) 1 = .ok (.istore_n 2, 1) := by decide +kernel
theorem d_124_2 : decode (mC 124) 2 = .ok (.iconst 0, 1) := by decide +kernel
theorem d_124_3 : decode (mC 124) 3 = .ok (.istore_n 3, 1) := by decide +kernel
theorem d_124_33 : decode (mC 124) 33 = .ok (.iload_n 2, 1) := by decide +kernel
theorem d_124_34 : decode (mC 124) 34 = .ok (.ireturn, 1) := by decide +kernel
theorem mr_124 : mR 124 = some .int := by decide +kernel
theorem d_123_10 : decode (mC 123) 10 = .ok (.iload 4, 2) := by decide +kernel
theorem d_123_12 : decode (mC 123) 12 = .ok (.aload_n 1, 1) := by decide +kernel
theorem d_123_13 : decode (mC 123) 13 = .ok (.invokevirtual 33, 3) := by decide +kernel
theorem vk_123_33 : VK 123 33 117 0 4 := ⟨⟨List.mem_of_getElem? (i := 942) (by decide +kernel), by decide +kernel⟩, List.mem_of_getElem? (i := 943) (by decide +kernel), mo_117, m0_117, _, rfl, List.mem_of_getElem? (i := 944) (by decide +kernel), by decide⟩
theorem d_123_16 : decode (mC 123) 16 = .ok (.if_icmp .gt 59, 3) := by decide +kernel
theorem d_123_19 : decode (mC 123) 19 = .ok (.iload 4, 2) := by decide +kernel
theorem d_123_21 : decode (mC 123) 21 = .ok (.aload_n 2, 1) := by decide +kernel
theorem d_123_22 : decode (mC 123) 22 = .ok (.getfield 37, 3) := by decide +kernel
theorem cn_123 : (mN 123).cls = "CordLoft$Sets" := by decide +kernel
theorem d_123_25 : decode (mC 123) 25 = .ok (.iand, 1) := by decide +kernel
theorem d_123_26 : decode (mC 123) 26 = .ok (.ifCond .ne 43, 3) := by decide +kernel
theorem d_123_69 : decode (mC 123) 69 = .ok (.iinc 4 1, 3) := by decide +kernel
theorem ml_123 : mL 123 = 5 := by decide +kernel
theorem d_123_72 : decode (mC 123) 72 = .ok (.goto (-62), 3) := by decide +kernel
theorem d_123_29 : decode (mC 123) 29 = .ok (.aload_n 2, 1) := by decide +kernel
theorem d_123_30 : decode (mC 123) 30 = .ok (.getfield 43, 3) := by decide +kernel
theorem d_123_33 : decode (mC 123) 33 = .ok (.aload_n 1, 1) := by decide +kernel
theorem d_123_34 : decode (mC 123) 34 = .ok (.getfield 46, 3) := by decide +kernel
theorem d_123_37 : decode (mC 123) 37 = .ok (.iload 4, 2) := by decide +kernel
theorem d_123_39 : decode (mC 123) 39 = .ok (.iaload, 1) := by decide +kernel
theorem d_123_40 : decode (mC 123) 40 = .ok (.ixor, 1) := by decide +kernel
theorem d_123_41 : decode (mC 123) 41 = .ok (.iload_n 3, 1) := by decide +kernel
theorem d_123_42 : decode (mC 123) 42 = .ok (.if_icmp .ne 27, 3) := by decide +kernel
theorem d_123_45 : decode (mC 123) 45 = .ok (.aload_n 0, 1) := by decide +kernel
theorem d_123_46 : decode (mC 123) 46 = .ok (.getfield 12, 3) := by decide +kernel
theorem d_123_49 : decode (mC 123) 49 = .ok (.aload_n 1, 1) := by decide +kernel
theorem d_123_50 : decode (mC 123) 50 = .ok (.iload 4, 2) := by decide +kernel
theorem d_123_52 : decode (mC 123) 52 = .ok (.invokevirtual 65, 3) := by decide +kernel
theorem mo_124 : MOK 124 := ⟨List.mem_of_getElem? (i := 974) (by decide +kernel), by decide +kernel, ⟨by decide +kernel, by decide +kernel⟩, List.mem_of_getElem? (i := 92) (by decide +kernel), by decide +kernel⟩
theorem m0_124 : M0K 124 := ⟨by decide +kernel, by decide +kernel⟩
theorem vk_123_65 : VK 123 65 124 1 4 := ⟨⟨List.mem_of_getElem? (i := 971) (by decide +kernel), by decide +kernel⟩, List.mem_of_getElem? (i := 972) (by decide +kernel), mo_124, m0_124, _, rfl, List.mem_of_getElem? (i := 973) (by decide +kernel), by decide⟩
theorem d_123_55 : decode (mC 123) 55 = .ok (.bipush 16, 2) := by decide +kernel
theorem d_123_57 : decode (mC 123) 57 = .ok (.imul, 1) := by decide +kernel
theorem d_123_58 : decode (mC 123) 58 = .ok (.iload 4, 2) := by decide +kernel
theorem d_123_60 : decode (mC 123) 60 = .ok (.invokestatic 52, 3) := by decide +kernel
theorem sk_123_52 : SKc 123 52 92 1 := ⟨⟨List.mem_of_getElem? (i := 958) (by decide +kernel), by decide +kernel⟩, List.mem_of_getElem? (i := 840) (by decide +kernel), mo_92, m0_92⟩
theorem d_123_63 : decode (mC 123) 63 = .ok (.iadd, 1) := by decide +kernel
theorem d_123_64 : decode (mC 123) 64 = .ok (.iload 4, 2) := by decide +kernel
theorem d_123_66 : decode (mC 123) 66 = .ok (.invokevirtual 58, 3) := by decide +kernel
theorem vk_123_58 : VK 123 58 121 2 1 := ⟨⟨List.mem_of_getElem? (i := 959) (by decide +kernel), by decide +kernel⟩, List.mem_of_getElem? (i := 960) (by decide +kernel), mo_121, m0_121, _, rfl, List.mem_of_getElem? (i := 961) (by decide +kernel), by decide⟩
theorem d_123_0 : decode (mC 123) 0 = .ok (.aload_n 0, 1) := by decide +kernel
theorem d_123_1 : decode (mC 123) 1 = .ok (.getfield 12, 3) := by decide +kernel
theorem d_123_4 : decode (mC 123) 4 = .ok (.invokevirtual 49, 3) := by decide +kernel
theorem vk_123_49 : VK 123 49 120 0 1 := ⟨⟨List.mem_of_getElem? (i := 954) (by decide +kernel), by decide +kernel⟩, List.mem_of_getElem? (i := 955) (by decide +kernel), mo_120, m0_120, _, rfl, List.mem_of_getElem? (i := 956) (by decide +kernel), by decide⟩
theorem d_123_7 : decode (mC 123) 7 = .ok (.iconst 0, 1) := by decide +kernel
theorem d_123_8 : decode (mC 123) 8 = .ok (.istore 4, 2) := by decide +kernel
theorem d_123_75 : decode (mC 123) 75 = .ok (.aload_n 0, 1) := by decide +kernel
theorem d_123_76 : decode (mC 123) 76 = .ok (.getfield 12, 3) := by decide +kernel
theorem d_123_79 : decode (mC 123) 79 = .ok (.getfield 62, 3) := by decide +kernel
theorem d_123_82 : decode (mC 123) 82 = .ok (.ireturn, 1) := by decide +kernel
theorem mr_123 : mR 123 = some .int := by decide +kernel
theorem d_122_0 : decode (mC 122) 0 = .ok (.aload_n 0, 1) := by decide +kernel
theorem d_122_1 : decode (mC 122) 1 = .ok (.getfield 67, 3) := by decide +kernel
theorem cn_122 : (mN 122).cls = "CordLoft" := by decide +kernel
theorem d_122_4 : decode (mC 122) 4 = .ok (.aload_n 0, 1) := by decide +kernel
theorem d_122_5 : decode (mC 122) 5 = .ok (.getfield 35, 3) := by decide +kernel
theorem d_122_8 : decode (mC 122) 8 = .ok (.aload_n 0, 1) := by decide +kernel
theorem d_122_9 : decode (mC 122) 9 = .ok (.getfield 45, 3) := by decide +kernel
theorem d_122_12 : decode (mC 122) 12 = .ok (.invokevirtual 114, 3) := by decide +kernel
theorem vk_122_114 : VK 122 114 78 0 0 := ⟨⟨List.mem_of_getElem? (i := 784) (by decide +kernel), by decide +kernel⟩, List.mem_of_getElem? (i := 785) (by decide +kernel), mo_78, m0_78, _, rfl, List.mem_of_getElem? (i := 786) (by decide +kernel), by decide⟩
theorem d_122_15 : decode (mC 122) 15 = .ok (.iload_n 1, 1) := by decide +kernel
theorem d_122_16 : decode (mC 122) 16 = .ok (.invokevirtual 213, 3) := by decide +kernel
theorem mo_123 : MOK 123 := ⟨List.mem_of_getElem? (i := 970) (by decide +kernel), by decide +kernel, ⟨by decide +kernel, by decide +kernel⟩, List.mem_of_getElem? (i := 96) (by decide +kernel), by decide +kernel⟩
theorem m0_123 : M0K 123 := ⟨by decide +kernel, by decide +kernel⟩
theorem vk_122_213 : VK 122 213 123 3 6 := ⟨⟨List.mem_of_getElem? (i := 967) (by decide +kernel), by decide +kernel⟩, List.mem_of_getElem? (i := 968) (by decide +kernel), mo_123, m0_123, _, rfl, List.mem_of_getElem? (i := 969) (by decide +kernel), by decide⟩
theorem d_122_19 : decode (mC 122) 19 = .ok (.istore_n 3, 1) := by decide +kernel
theorem ml_122 : mL 122 = 4 := by decide +kernel
theorem d_122_20 : decode (mC 122) 20 = .ok (.iload_n 3, 1) := by decide +kernel
theorem d_122_21 : decode (mC 122) 21 = .ok (.ifCond .ge 7, 3) := by decide +kernel
theorem d_122_28 : decode (mC 122) 28 = .ok (.iload_n 2, 1) := by decide +kernel
theorem d_122_29 : decode (mC 122) 29 = .ok (.aload_n 0, 1) := by decide +kernel
theorem d_122_30 : decode (mC 122) 30 = .ok (.getfield 35, 3) := by decide +kernel
theorem d_122_33 : decode (mC 122) 33 = .ok (.iload_n 3, 1) := by decide +kernel
theorem d_122_34 : decode (mC 122) 34 = .ok (.invokevirtual 216, 3) := by decide +kernel
theorem vk_122_216 : VK 122 216 124 1 4 := ⟨⟨List.mem_of_getElem? (i := 975) (by decide +kernel), by decide +kernel⟩, List.mem_of_getElem? (i := 972) (by decide +kernel), mo_124, m0_124, _, rfl, List.mem_of_getElem? (i := 973) (by decide +kernel), by decide⟩
theorem d_122_37 : decode (mC 122) 37 = .ok (.iload_n 3, 1) := by decide +kernel
theorem d_122_38 : decode (mC 122) 38 = .ok (.invokestatic 132, 3) := by decide +kernel
theorem sk_122_132 : SKc 122 132 84 3 := ⟨⟨List.mem_of_getElem? (i := 808) (by decide +kernel), by decide +kernel⟩, List.mem_of_getElem? (i := 809) (by decide +kernel), mo_84, m0_84⟩
theorem d_122_41 : decode (mC 122) 41 = .ok (.ireturn, 1) := by decide +kernel
theorem mr_122 : mR 122 = some .int := by decide +kernel
theorem d_122_24 : decode (mC 122) 24 = .ok (.iconst (-1), 1) := by decide +kernel
theorem d_122_25 : decode (mC 122) 25 = .ok (.goto 16, 3) := by decide +kernel
theorem d_125_0 : decode (mC 125) 0 = .ok (.aload_n 0, 1) := by decide +kernel
theorem d_125_1 : decode (mC 125) 1 = .ok (.getfield 35, 3) := by decide +kernel
theorem cn_125 : (mN 125).cls = "CordLoft" := by decide +kernel
theorem d_125_4 : decode (mC 125) 4 = .ok (.iload_n 1, 1) := by decide +kernel
theorem d_125_5 : decode (mC 125) 5 = .ok (.invokevirtual 203, 3) := by decide +kernel
theorem vk_125_203 : VK 125 203 114 1 4 := ⟨⟨List.mem_of_getElem? (i := 930) (by decide +kernel), by decide +kernel⟩, List.mem_of_getElem? (i := 931) (by decide +kernel), mo_114, m0_114, _, rfl, List.mem_of_getElem? (i := 932) (by decide +kernel), by decide⟩
theorem d_125_8 : decode (mC 125) 8 = .ok (.ifCond .eq 25, 3) := by decide +kernel
theorem d_125_33 : decode (mC 125) 33 = .ok (.iconst (-1), 1) := by decide +kernel
theorem d_125_34 : decode (mC 125) 34 = .ok (.ireturn, 1) := by decide +kernel
theorem mr_125 : mR 125 = some .int := by decide +kernel
theorem d_125_11 : decode (mC 125) 11 = .ok (.aload_n 0, 1) := by decide +kernel
theorem d_125_12 : decode (mC 125) 12 = .ok (.getfield 67, 3) := by decide +kernel
theorem d_125_15 : decode (mC 125) 15 = .ok (.aload_n 0, 1) := by decide +kernel
theorem d_125_16 : decode (mC 125) 16 = .ok (.getfield 35, 3) := by decide +kernel
theorem d_125_19 : decode (mC 125) 19 = .ok (.aload_n 0, 1) := by decide +kernel
theorem d_125_20 : decode (mC 125) 20 = .ok (.getfield 45, 3) := by decide +kernel
theorem d_125_23 : decode (mC 125) 23 = .ok (.invokevirtual 114, 3) := by decide +kernel
theorem vk_125_114 : VK 125 114 78 0 0 := ⟨⟨List.mem_of_getElem? (i := 784) (by decide +kernel), by decide +kernel⟩, List.mem_of_getElem? (i := 785) (by decide +kernel), mo_78, m0_78, _, rfl, List.mem_of_getElem? (i := 786) (by decide +kernel), by decide⟩
theorem d_125_26 : decode (mC 125) 26 = .ok (.iload_n 1, 1) := by decide +kernel
theorem d_125_27 : decode (mC 125) 27 = .ok (.invokevirtual 206, 3) := by decide +kernel
theorem vk_125_206 : VK 125 206 116 3 6 := ⟨⟨List.mem_of_getElem? (i := 938) (by decide +kernel), by decide +kernel⟩, List.mem_of_getElem? (i := 939) (by decide +kernel), mo_116, m0_116, _, rfl, List.mem_of_getElem? (i := 940) (by decide +kernel), by decide⟩
theorem d_125_30 : decode (mC 125) 30 = .ok (.goto 4, 3) := by decide +kernel
theorem ml_125 : mL 125 = 2 := by decide +kernel
theorem d_127_9 : decode (mC 127) 9 = .ok (.iload_n 3, 1) := by decide +kernel
theorem d_127_10 : decode (mC 127) 10 = .ok (.aload_n 1, 1) := by decide +kernel
theorem d_127_11 : decode (mC 127) 11 = .ok (.invokevirtual 33, 3) := by decide +kernel
theorem vk_127_33 : VK 127 33 117 0 4 := ⟨⟨List.mem_of_getElem? (i := 942) (by decide +kernel), by decide +kernel⟩, List.mem_of_getElem? (i := 943) (by decide +kernel), mo_117, m0_117, _, rfl, List.mem_of_getElem? (i := 944) (by decide +kernel), by decide⟩
theorem d_127_14 : decode (mC 127) 14 = .ok (.if_icmp .gt 39, 3) := by decide +kernel
theorem d_127_17 : decode (mC 127) 17 = .ok (.iload_n 3, 1) := by decide +kernel
theorem d_127_18 : decode (mC 127) 18 = .ok (.aload_n 2, 1) := by decide +kernel
theorem d_127_19 : decode (mC 127) 19 = .ok (.getfield 37, 3) := by decide +kernel
theorem cn_127 : (mN 127).cls = "CordLoft$Sets" := by decide +kernel
theorem d_127_22 : decode (mC 127) 22 = .ok (.iand, 1) := by decide +kernel
theorem d_127_23 : decode (mC 127) 23 = .ok (.ifCond .ne 24, 3) := by decide +kernel
theorem d_127_47 : decode (mC 127) 47 = .ok (.iinc 3 1, 3) := by decide +kernel
theorem ml_127 : mL 127 = 4 := by decide +kernel
theorem d_127_50 : decode (mC 127) 50 = .ok (.goto (-41), 3) := by decide +kernel
theorem d_127_26 : decode (mC 127) 26 = .ok (.aload_n 1, 1) := by decide +kernel
theorem d_127_27 : decode (mC 127) 27 = .ok (.getfield 46, 3) := by decide +kernel
theorem d_127_30 : decode (mC 127) 30 = .ok (.iload_n 3, 1) := by decide +kernel
theorem d_127_31 : decode (mC 127) 31 = .ok (.iaload, 1) := by decide +kernel
theorem d_127_32 : decode (mC 127) 32 = .ok (.ifCond .ne 15, 3) := by decide +kernel
theorem d_127_35 : decode (mC 127) 35 = .ok (.aload_n 0, 1) := by decide +kernel
theorem d_127_36 : decode (mC 127) 36 = .ok (.getfield 12, 3) := by decide +kernel
theorem d_127_39 : decode (mC 127) 39 = .ok (.iload_n 3, 1) := by decide +kernel
theorem d_127_40 : decode (mC 127) 40 = .ok (.invokestatic 52, 3) := by decide +kernel
theorem sk_127_52 : SKc 127 52 92 1 := ⟨⟨List.mem_of_getElem? (i := 958) (by decide +kernel), by decide +kernel⟩, List.mem_of_getElem? (i := 840) (by decide +kernel), mo_92, m0_92⟩
theorem d_127_43 : decode (mC 127) 43 = .ok (.iload_n 3, 1) := by decide +kernel
theorem d_127_44 : decode (mC 127) 44 = .ok (.invokevirtual 58, 3) := by decide +kernel
theorem vk_127_58 : VK 127 58 121 2 1 := ⟨⟨List.mem_of_getElem? (i := 959) (by decide +kernel), by decide +kernel⟩, List.mem_of_getElem? (i := 960) (by decide +kernel), mo_121, m0_121, _, rfl, List.mem_of_getElem? (i := 961) (by decide +kernel), by decide⟩
theorem d_127_0 : decode (mC 127) 0 = .ok (.aload_n 0, 1) := by decide +kernel
theorem d_127_1 : decode (mC 127) 1 = .ok (.getfield 12, 3) := by decide +kernel
theorem d_127_4 : decode (mC 127) 4 = .ok (.invokevirtual 49, 3) := by decide +kernel
theorem vk_127_49 : VK 127 49 120 0 1 := ⟨⟨List.mem_of_getElem? (i := 954) (by decide +kernel), by decide +kernel⟩, List.mem_of_getElem? (i := 955) (by decide +kernel), mo_120, m0_120, _, rfl, List.mem_of_getElem? (i := 956) (by decide +kernel), by decide⟩
theorem d_127_7 : decode (mC 127) 7 = .ok (.iconst 1, 1) := by decide +kernel
theorem d_127_8 : decode (mC 127) 8 = .ok (.istore_n 3, 1) := by decide +kernel
theorem d_127_53 : decode (mC 127) 53 = .ok (.aload_n 0, 1) := by decide +kernel
theorem d_127_54 : decode (mC 127) 54 = .ok (.getfield 12, 3) := by decide +kernel
theorem d_127_57 : decode (mC 127) 57 = .ok (.getfield 62, 3) := by decide +kernel
theorem d_127_60 : decode (mC 127) 60 = .ok (.ireturn, 1) := by decide +kernel
theorem mr_127 : mR 127 = some .int := by decide +kernel
theorem d_126_0 : decode (mC 126) 0 = .ok (.aload_n 0, 1) := by decide +kernel
theorem d_126_1 : decode (mC 126) 1 = .ok (.getfield 67, 3) := by decide +kernel
theorem cn_126 : (mN 126).cls = "CordLoft" := by decide +kernel
theorem d_126_4 : decode (mC 126) 4 = .ok (.aload_n 0, 1) := by decide +kernel
theorem d_126_5 : decode (mC 126) 5 = .ok (.getfield 35, 3) := by decide +kernel
theorem d_126_8 : decode (mC 126) 8 = .ok (.aload_n 0, 1) := by decide +kernel
theorem d_126_9 : decode (mC 126) 9 = .ok (.getfield 45, 3) := by decide +kernel
theorem d_126_12 : decode (mC 126) 12 = .ok (.invokevirtual 114, 3) := by decide +kernel
theorem vk_126_114 : VK 126 114 78 0 0 := ⟨⟨List.mem_of_getElem? (i := 784) (by decide +kernel), by decide +kernel⟩, List.mem_of_getElem? (i := 785) (by decide +kernel), mo_78, m0_78, _, rfl, List.mem_of_getElem? (i := 786) (by decide +kernel), by decide⟩
theorem d_126_15 : decode (mC 126) 15 = .ok (.invokevirtual 219, 3) := by decide +kernel
theorem mo_127 : MOK 127 := ⟨List.mem_of_getElem? (i := 987) (by decide +kernel), by decide +kernel, ⟨by decide +kernel, by decide +kernel⟩, List.mem_of_getElem? (i := 96) (by decide +kernel), by decide +kernel⟩
theorem m0_127 : M0K 127 := ⟨by decide +kernel, by decide +kernel⟩
theorem vk_126_219 : VK 126 219 127 2 6 := ⟨⟨List.mem_of_getElem? (i := 984) (by decide +kernel), by decide +kernel⟩, List.mem_of_getElem? (i := 985) (by decide +kernel), mo_127, m0_127, _, rfl, List.mem_of_getElem? (i := 986) (by decide +kernel), by decide⟩
theorem d_126_18 : decode (mC 126) 18 = .ok (.istore_n 2, 1) := by decide +kernel
theorem ml_126 : mL 126 = 3 := by decide +kernel
theorem d_126_19 : decode (mC 126) 19 = .ok (.iload_n 2, 1) := by decide +kernel
theorem d_126_20 : decode (mC 126) 20 = .ok (.ifCond .ge 7, 3) := by decide +kernel
theorem d_126_27 : decode (mC 126) 27 = .ok (.iload_n 1, 1) := by decide +kernel
theorem d_126_28 : decode (mC 126) 28 = .ok (.iload_n 2, 1) := by decide +kernel
theorem d_126_29 : decode (mC 126) 29 = .ok (.invokestatic 167, 3) := by decide +kernel
theorem sk_126_167 : SKc 126 167 92 1 := ⟨⟨List.mem_of_getElem? (i := 839) (by decide +kernel), by decide +kernel⟩, List.mem_of_getElem? (i := 840) (by decide +kernel), mo_92, m0_92⟩
theorem d_126_32 : decode (mC 126) 32 = .ok (.iload_n 2, 1) := by decide +kernel
theorem d_126_33 : decode (mC 126) 33 = .ok (.invokestatic 132, 3) := by decide +kernel
theorem sk_126_132 : SKc 126 132 84 3 := ⟨⟨List.mem_of_getElem? (i := 808) (by decide +kernel), by decide +kernel⟩, List.mem_of_getElem? (i := 809) (by decide +kernel), mo_84, m0_84⟩
theorem d_126_36 : decode (mC 126) 36 = .ok (.ireturn, 1) := by decide +kernel
theorem mr_126 : mR 126 = some .int := by decide +kernel
theorem d_126_23 : decode (mC 126) 23 = .ok (.iconst (-1), 1) := by decide +kernel
theorem d_126_24 : decode (mC 126) 24 = .ok (.goto 12, 3) := by decide +kernel
theorem d_129_0 : decode (mC 129) 0 = .ok (.aload_n 0, 1) := by decide +kernel
theorem d_129_1 : decode (mC 129) 1 = .ok (.getfield 35, 3) := by decide +kernel
theorem cn_129 : (mN 129).cls = "CordLoft" := by decide +kernel
theorem d_129_4 : decode (mC 129) 4 = .ok (.invokevirtual 365, 3) := by decide +kernel
theorem vk_129_365 : VK 129 365 117 0 4 := ⟨⟨List.mem_of_getElem? (i := 996) (by decide +kernel), by decide +kernel⟩, List.mem_of_getElem? (i := 943) (by decide +kernel), mo_117, m0_117, _, rfl, List.mem_of_getElem? (i := 944) (by decide +kernel), by decide⟩
theorem d_129_7 : decode (mC 129) 7 = .ok (.aload_n 0, 1) := by decide +kernel
theorem d_129_8 : decode (mC 129) 8 = .ok (.getfield 45, 3) := by decide +kernel
theorem d_129_11 : decode (mC 129) 11 = .ok (.invokevirtual 114, 3) := by decide +kernel
theorem vk_129_114 : VK 129 114 78 0 0 := ⟨⟨List.mem_of_getElem? (i := 784) (by decide +kernel), by decide +kernel⟩, List.mem_of_getElem? (i := 785) (by decide +kernel), mo_78, m0_78, _, rfl, List.mem_of_getElem? (i := 786) (by decide +kernel), by decide⟩
theorem d_129_14 : decode (mC 129) 14 = .ok (.getfield 161, 3) := by decide +kernel
theorem d_129_17 : decode (mC 129) 17 = .ok (.iconst (-1), 1) := by decide +kernel
theorem d_129_18 : decode (mC 129) 18 = .ok (.ixor, 1) := by decide +kernel
theorem d_129_19 : decode (mC 129) 19 = .ok (.iand, 1) := by decide +kernel
theorem d_129_20 : decode (mC 129) 20 = .ok (.ireturn, 1) := by decide +kernel
theorem mr_129 : mR 129 = some .int := by decide +kernel
theorem ml_129 : mL 129 = 1 := by decide +kernel
theorem d_131_4 : decode (mC 131) 4 = .ok (.iload_n 3, 1) := by decide +kernel
theorem d_131_5 : decode (mC 131) 5 = .ok (.bipush 8, 2) := by decide +kernel
theorem d_131_7 : decode (mC 131) 7 = .ok (.if_icmp .ge 35, 3) := by decide +kernel
theorem d_131_10 : decode (mC 131) 10 = .ok (.iload_n 2, 1) := by decide +kernel
theorem d_131_11 : decode (mC 131) 11 = .ok (.iload_n 3, 1) := by decide +kernel
theorem d_131_12 : decode (mC 131) 12 = .ok (.ishr, 1) := by decide +kernel
theorem d_131_13 : decode (mC 131) 13 = .ok (.iconst 1, 1) := by decide +kernel
theorem d_131_14 : decode (mC 131) 14 = .ok (.iand, 1) := by decide +kernel
theorem d_131_15 : decode (mC 131) 15 = .ok (.ifCond .eq 21, 3) := by decide +kernel
theorem d_131_36 : decode (mC 131) 36 = .ok (.iinc 3 1, 3) := by decide +kernel
theorem ml_131 : mL 131 = 4 := by decide +kernel
theorem d_131_39 : decode (mC 131) 39 = .ok (.goto (-35), 3) := by decide +kernel
theorem d_131_18 : decode (mC 131) 18 = .ok (.aload_n 0, 1) := by decide +kernel
theorem d_131_19 : decode (mC 131) 19 = .ok (.getfield 30, 3) := by decide +kernel
theorem fk_CordLoft_Sets_30 : FK 2 "CordLoft$Sets" 30 6 4 := ⟨⟨_, rfl, by decide, List.mem_of_getElem? (i := 392) (by decide +kernel)⟩, rfl, by decide⟩
theorem cn_131 : (mN 131).cls = "CordLoft$Sets" := by decide +kernel
theorem ft_7_4 : finT 7 4 = some (91, 0) := by decide +kernel
theorem k_91 : kd0 91 = 20 := by decide +kernel
theorem l_91 : ln0 91 = 8 := by decide +kernel
theorem d_131_22 : decode (mC 131) 22 = .ok (.iload_n 3, 1) := by decide +kernel
theorem d_131_23 : decode (mC 131) 23 = .ok (.iaload, 1) := by decide +kernel
theorem d_131_24 : decode (mC 131) 24 = .ok (.ifCond .eq 12, 3) := by decide +kernel
theorem d_131_27 : decode (mC 131) 27 = .ok (.iload_n 2, 1) := by decide +kernel
theorem d_131_28 : decode (mC 131) 28 = .ok (.aload_n 0, 1) := by decide +kernel
theorem d_131_29 : decode (mC 131) 29 = .ok (.getfield 30, 3) := by decide +kernel
theorem d_131_32 : decode (mC 131) 32 = .ok (.iload_n 3, 1) := by decide +kernel
theorem d_131_33 : decode (mC 131) 33 = .ok (.iaload, 1) := by decide +kernel
theorem d_131_34 : decode (mC 131) 34 = .ok (.ixor, 1) := by decide +kernel
theorem d_131_35 : decode (mC 131) 35 = .ok (.istore_n 2, 1) := by decide +kernel
theorem d_131_0 : decode (mC 131) 0 = .ok (.iload_n 1, 1) := by decide +kernel
theorem d_131_1 : decode (mC 131) 1 = .ok (.istore_n 2, 1) := by decide +kernel
theorem d_131_2 : decode (mC 131) 2 = .ok (.iconst 0, 1) := by decide +kernel
theorem d_131_3 : decode (mC 131) 3 = .ok (.istore_n 3, 1) := by decide +kernel
theorem d_131_42 : decode (mC 131) 42 = .ok (.iload_n 2, 1) := by decide +kernel
theorem d_131_43 : decode (mC 131) 43 = .ok (.ireturn, 1) := by decide +kernel
theorem mr_131 : mR 131 = some .int := by decide +kernel
theorem d_132_74 : decode (mC 132) 74 = .ok (.iload_n 1, 1) := by decide +kernel
theorem d_132_75 : decode (mC 132) 75 = .ok (.iload_n 0, 1) := by decide +kernel
theorem d_132_76 : decode (mC 132) 76 = .ok (.iconst 1, 1) := by decide +kernel
theorem d_132_77 : decode (mC 132) 77 = .ok (.iushr, 1) := by decide +kernel
theorem d_132_78 : decode (mC 132) 78 = .ok (.iadd, 1) := by decide +kernel
theorem d_132_79 : decode (mC 132) 79 = .ok (.ireturn, 1) := by decide +kernel
theorem mr_132 : mR 132 = some .int := by decide +kernel
theorem d_132_62 : decode (mC 132) 62 = .ok (.iload_n 0, 1) := by decide +kernel
theorem d_132_63 : decode (mC 132) 63 = .ok (.iconst 4, 1) := by decide +kernel
theorem d_132_64 : decode (mC 132) 64 = .ok (.if_icmp .le 10, 3) := by decide +kernel
theorem d_132_67 : decode (mC 132) 67 = .ok (.iinc 1 2, 3) := by decide +kernel
theorem ml_132 : mL 132 = 2 := by decide +kernel
theorem d_132_70 : decode (mC 132) 70 = .ok (.iload_n 0, 1) := by decide +kernel
theorem d_132_71 : decode (mC 132) 71 = .ok (.iconst 2, 1) := by decide +kernel
theorem d_132_72 : decode (mC 132) 72 = .ok (.iushr, 1) := by decide +kernel
theorem d_132_73 : decode (mC 132) 73 = .ok (.istore_n 0, 1) := by decide +kernel
theorem d_132_49 : decode (mC 132) 49 = .ok (.iload_n 0, 1) := by decide +kernel
theorem d_132_50 : decode (mC 132) 50 = .ok (.bipush 16, 2) := by decide +kernel
theorem d_132_52 : decode (mC 132) 52 = .ok (.if_icmp .le 10, 3) := by decide +kernel
theorem d_132_55 : decode (mC 132) 55 = .ok (.iinc 1 4, 3) := by decide +kernel
theorem d_132_58 : decode (mC 132) 58 = .ok (.iload_n 0, 1) := by decide +kernel
theorem d_132_59 : decode (mC 132) 59 = .ok (.iconst 4, 1) := by decide +kernel
theorem d_132_60 : decode (mC 132) 60 = .ok (.iushr, 1) := by decide +kernel
theorem d_132_61 : decode (mC 132) 61 = .ok (.istore_n 0, 1) := by decide +kernel
theorem d_132_34 : decode (mC 132) 34 = .ok (.iload_n 0, 1) := by decide +kernel
theorem d_132_35 : decode (mC 132) 35 = .ok (.sipush 256, 3) := by decide +kernel
theorem si_256 : (Int16.ofInt 256).toInt32 = 256 := by decide +kernel
theorem d_132_38 : decode (mC 132) 38 = .ok (.if_icmp .le 11, 3) := by decide +kernel
theorem d_132_41 : decode (mC 132) 41 = .ok (.iinc 1 8, 3) := by decide +kernel
theorem ic_8 : Int32.ofInt 8 = 8 := by decide +kernel
theorem d_132_44 : decode (mC 132) 44 = .ok (.iload_n 0, 1) := by decide +kernel
theorem d_132_45 : decode (mC 132) 45 = .ok (.bipush 8, 2) := by decide +kernel
theorem d_132_47 : decode (mC 132) 47 = .ok (.iushr, 1) := by decide +kernel
theorem d_132_48 : decode (mC 132) 48 = .ok (.istore_n 0, 1) := by decide +kernel
theorem d_132_0 : decode (mC 132) 0 = .ok (.iload_n 0, 1) := by decide +kernel
theorem d_132_1 : decode (mC 132) 1 = .ok (.iconst (-1), 1) := by decide +kernel
theorem d_132_2 : decode (mC 132) 2 = .ok (.ixor, 1) := by decide +kernel
theorem d_132_3 : decode (mC 132) 3 = .ok (.iload_n 0, 1) := by decide +kernel
theorem d_132_4 : decode (mC 132) 4 = .ok (.iconst 1, 1) := by decide +kernel
theorem d_132_5 : decode (mC 132) 5 = .ok (.isub, 1) := by decide +kernel
theorem d_132_6 : decode (mC 132) 6 = .ok (.iand, 1) := by decide +kernel
theorem d_132_7 : decode (mC 132) 7 = .ok (.istore_n 0, 1) := by decide +kernel
theorem d_132_8 : decode (mC 132) 8 = .ok (.iload_n 0, 1) := by decide +kernel
theorem d_132_9 : decode (mC 132) 9 = .ok (.ifCond .gt 8, 3) := by decide +kernel
theorem d_132_17 : decode (mC 132) 17 = .ok (.iconst 1, 1) := by decide +kernel
theorem d_132_18 : decode (mC 132) 18 = .ok (.istore_n 1, 1) := by decide +kernel
theorem d_132_19 : decode (mC 132) 19 = .ok (.iload_n 0, 1) := by decide +kernel
theorem d_132_20 : decode (mC 132) 20 = .ok (.ldc_w 264, 3) := by decide +kernel
theorem cn_132 : (mN 132).cls = "java/lang/Integer" := by decide +kernel
theorem cw_java_lang_Integer_264 : Cond.constant "java/lang/Integer" 264 65536 ∈ lw_tbl := List.mem_of_getElem? (i := 1008) (by decide +kernel)
theorem d_132_23 : decode (mC 132) 23 = .ok (.if_icmp .le 11, 3) := by decide +kernel
theorem d_132_26 : decode (mC 132) 26 = .ok (.iinc 1 16, 3) := by decide +kernel
theorem ic_16 : Int32.ofInt 16 = 16 := by decide +kernel
theorem d_132_29 : decode (mC 132) 29 = .ok (.iload_n 0, 1) := by decide +kernel
theorem d_132_30 : decode (mC 132) 30 = .ok (.bipush 16, 2) := by decide +kernel
theorem d_132_32 : decode (mC 132) 32 = .ok (.iushr, 1) := by decide +kernel
theorem d_132_33 : decode (mC 132) 33 = .ok (.istore_n 0, 1) := by decide +kernel
theorem d_132_12 : decode (mC 132) 12 = .ok (.iload_n 0, 1) := by decide +kernel
theorem d_132_13 : decode (mC 132) 13 = .ok (.bipush 32, 2) := by decide +kernel
theorem d_132_15 : decode (mC 132) 15 = .ok (.iand, 1) := by decide +kernel
theorem d_132_16 : decode (mC 132) 16 = .ok (.ireturn, 1) := by decide +kernel
theorem d_130_59 : decode (mC 130) 59 = .ok (.istore 5, 2) := by decide +kernel
theorem ml_130 : mL 130 = 6 := by decide +kernel
theorem d_130_61 : decode (mC 130) 61 = .ok (.iload 5, 2) := by decide +kernel
theorem d_130_63 : decode (mC 130) 63 = .ok (.ifCond .eq 22, 3) := by decide +kernel
theorem d_130_85 : decode (mC 130) 85 = .ok (.iinc 4 1, 3) := by decide +kernel
theorem d_130_88 : decode (mC 130) 88 = .ok (.goto (-62), 3) := by decide +kernel
theorem d_130_66 : decode (mC 130) 66 = .ok (.aload_n 0, 1) := by decide +kernel
theorem d_130_67 : decode (mC 130) 67 = .ok (.getfield 30, 3) := by decide +kernel
theorem cn_130 : (mN 130).cls = "CordLoft$Sets" := by decide +kernel
theorem d_130_70 : decode (mC 130) 70 = .ok (.iload 5, 2) := by decide +kernel
theorem d_130_72 : decode (mC 130) 72 = .ok (.invokestatic 83, 3) := by decide +kernel
theorem mo_132 : MOK 132 := ⟨List.mem_of_getElem? (i := 1007) (by decide +kernel), by decide +kernel, ⟨by decide +kernel, by decide +kernel⟩, List.mem_of_getElem? (i := 107) (by decide +kernel), by decide +kernel⟩
theorem m0_132 : M0K 132 := ⟨by decide +kernel, by decide +kernel⟩
theorem sk_130_83 : SKc 130 83 132 1 := ⟨⟨List.mem_of_getElem? (i := 1005) (by decide +kernel), by decide +kernel⟩, List.mem_of_getElem? (i := 1006) (by decide +kernel), mo_132, m0_132⟩
theorem d_130_75 : decode (mC 130) 75 = .ok (.bipush 8, 2) := by decide +kernel
theorem d_130_77 : decode (mC 130) 77 = .ok (.irem, 1) := by decide +kernel
theorem nz_8 : ¬ (8 : Int32) = 0 := by decide +kernel
theorem d_130_78 : decode (mC 130) 78 = .ok (.iload 5, 2) := by decide +kernel
theorem d_130_80 : decode (mC 130) 80 = .ok (.iastore, 1) := by decide +kernel
theorem d_130_81 : decode (mC 130) 81 = .ok (.iload_n 3, 1) := by decide +kernel
theorem d_130_82 : decode (mC 130) 82 = .ok (.iconst 2, 1) := by decide +kernel
theorem d_130_83 : decode (mC 130) 83 = .ok (.imul, 1) := by decide +kernel
theorem d_130_84 : decode (mC 130) 84 = .ok (.istore_n 3, 1) := by decide +kernel
theorem d_130_26 : decode (mC 130) 26 = .ok (.iload 4, 2) := by decide +kernel
theorem d_130_28 : decode (mC 130) 28 = .ok (.aload_n 1, 1) := by decide +kernel
theorem d_130_29 : decode (mC 130) 29 = .ok (.getfield 74, 3) := by decide +kernel
theorem fk_CordLoft_Sets_74 : FK 0 "CordLoft$Sets" 74 4 6 := ⟨⟨_, rfl, by decide, List.mem_of_getElem? (i := 248) (by decide +kernel)⟩, rfl, by decide⟩
theorem d_130_32 : decode (mC 130) 32 = .ok (.if_icmp .ge 59, 3) := by decide +kernel
theorem d_130_35 : decode (mC 130) 35 = .ok (.iload_n 2, 1) := by decide +kernel
theorem d_130_36 : decode (mC 130) 36 = .ok (.iload 4, 2) := by decide +kernel
theorem d_130_38 : decode (mC 130) 38 = .ok (.ishr, 1) := by decide +kernel
theorem d_130_39 : decode (mC 130) 39 = .ok (.iconst 1, 1) := by decide +kernel
theorem d_130_40 : decode (mC 130) 40 = .ok (.iand, 1) := by decide +kernel
theorem d_130_41 : decode (mC 130) 41 = .ok (.ifCond .ne 7, 3) := by decide +kernel
theorem d_130_48 : decode (mC 130) 48 = .ok (.aload_n 0, 1) := by decide +kernel
theorem d_130_49 : decode (mC 130) 49 = .ok (.aload_n 1, 1) := by decide +kernel
theorem d_130_50 : decode (mC 130) 50 = .ok (.getfield 77, 3) := by decide +kernel
theorem fk_CordLoft_Sets_77 : FK 2 "CordLoft$Sets" 77 4 8 := ⟨⟨_, rfl, by decide, List.mem_of_getElem? (i := 255) (by decide +kernel)⟩, rfl, by decide⟩
theorem d_130_53 : decode (mC 130) 53 = .ok (.iload 4, 2) := by decide +kernel
theorem d_130_55 : decode (mC 130) 55 = .ok (.iaload, 1) := by decide +kernel
theorem d_130_56 : decode (mC 130) 56 = .ok (.invokevirtual 80, 3) := by decide +kernel
theorem mo_131 : MOK 131 := ⟨List.mem_of_getElem? (i := 1004) (by decide +kernel), by decide +kernel, ⟨by decide +kernel, by decide +kernel⟩, List.mem_of_getElem? (i := 96) (by decide +kernel), by decide +kernel⟩
theorem m0_131 : M0K 131 := ⟨by decide +kernel, by decide +kernel⟩
theorem vk_130_80 : VK 130 80 131 1 6 := ⟨⟨List.mem_of_getElem? (i := 1001) (by decide +kernel), by decide +kernel⟩, List.mem_of_getElem? (i := 1003) (by decide +kernel), mo_131, m0_131, _, rfl, List.mem_of_getElem? (i := 23) (by decide +kernel), by decide⟩
theorem d_130_44 : decode (mC 130) 44 = .ok (.iconst 0, 1) := by decide +kernel
theorem d_130_45 : decode (mC 130) 45 = .ok (.goto 14, 3) := by decide +kernel
theorem d_130_2 : decode (mC 130) 2 = .ok (.iload_n 3, 1) := by decide +kernel
theorem d_130_3 : decode (mC 130) 3 = .ok (.bipush 8, 2) := by decide +kernel
theorem d_130_5 : decode (mC 130) 5 = .ok (.if_icmp .ge 16, 3) := by decide +kernel
theorem d_130_8 : decode (mC 130) 8 = .ok (.aload_n 0, 1) := by decide +kernel
theorem d_130_9 : decode (mC 130) 9 = .ok (.getfield 30, 3) := by decide +kernel
theorem d_130_12 : decode (mC 130) 12 = .ok (.iload_n 3, 1) := by decide +kernel
theorem d_130_13 : decode (mC 130) 13 = .ok (.iconst 0, 1) := by decide +kernel
theorem d_130_14 : decode (mC 130) 14 = .ok (.iastore, 1) := by decide +kernel
theorem d_130_15 : decode (mC 130) 15 = .ok (.iinc 3 1, 3) := by decide +kernel
theorem d_130_18 : decode (mC 130) 18 = .ok (.goto (-16), 3) := by decide +kernel
theorem d_130_0 : decode (mC 130) 0 = .ok (.iconst 0, 1) := by decide +kernel
theorem d_130_1 : decode (mC 130) 1 = .ok (.istore_n 3, 1) := by decide +kernel
theorem d_130_21 : decode (mC 130) 21 = .ok (.iconst 1, 1) := by decide +kernel
theorem d_130_22 : decode (mC 130) 22 = .ok (.istore_n 3, 1) := by decide +kernel
theorem d_130_23 : decode (mC 130) 23 = .ok (.iconst 0, 1) := by decide +kernel
theorem d_130_24 : decode (mC 130) 24 = .ok (.istore 4, 2) := by decide +kernel
theorem d_130_91 : decode (mC 130) 91 = .ok (.iload_n 3, 1) := by decide +kernel
theorem d_130_92 : decode (mC 130) 92 = .ok (.ireturn, 1) := by decide +kernel
theorem mr_130 : mR 130 = some .int := by decide +kernel
theorem d_128_0 : decode (mC 128) 0 = .ok (.aload_n 0, 1) := by decide +kernel
theorem d_128_1 : decode (mC 128) 1 = .ok (.getfield 67, 3) := by decide +kernel
theorem cn_128 : (mN 128).cls = "CordLoft" := by decide +kernel
theorem d_128_4 : decode (mC 128) 4 = .ok (.aload_n 0, 1) := by decide +kernel
theorem d_128_5 : decode (mC 128) 5 = .ok (.getfield 35, 3) := by decide +kernel
theorem d_128_8 : decode (mC 128) 8 = .ok (.aload_n 0, 1) := by decide +kernel
theorem d_128_9 : decode (mC 128) 9 = .ok (.invokevirtual 223, 3) := by decide +kernel
theorem mo_129 : MOK 129 := ⟨List.mem_of_getElem? (i := 995) (by decide +kernel), by decide +kernel, ⟨by decide +kernel, by decide +kernel⟩, List.mem_of_getElem? (i := 88) (by decide +kernel), by decide +kernel⟩
theorem m0_129 : M0K 129 := ⟨by decide +kernel, by decide +kernel⟩
theorem vk_128_223 : VK 128 223 129 0 11 := ⟨⟨List.mem_of_getElem? (i := 992) (by decide +kernel), by decide +kernel⟩, List.mem_of_getElem? (i := 994) (by decide +kernel), mo_129, m0_129, _, rfl, List.mem_of_getElem? (i := 22) (by decide +kernel), by decide⟩
theorem d_128_12 : decode (mC 128) 12 = .ok (.invokevirtual 227, 3) := by decide +kernel
theorem mo_130 : MOK 130 := ⟨List.mem_of_getElem? (i := 1000) (by decide +kernel), by decide +kernel, ⟨by decide +kernel, by decide +kernel⟩, List.mem_of_getElem? (i := 96) (by decide +kernel), by decide +kernel⟩
theorem m0_130 : M0K 130 := ⟨by decide +kernel, by decide +kernel⟩
theorem vk_128_227 : VK 128 227 130 2 6 := ⟨⟨List.mem_of_getElem? (i := 997) (by decide +kernel), by decide +kernel⟩, List.mem_of_getElem? (i := 998) (by decide +kernel), mo_130, m0_130, _, rfl, List.mem_of_getElem? (i := 999) (by decide +kernel), by decide⟩
theorem d_128_15 : decode (mC 128) 15 = .ok (.ireturn, 1) := by decide +kernel
theorem mr_128 : mR 128 = some .int := by decide +kernel
theorem ml_128 : mL 128 = 1 := by decide +kernel
theorem d_133_23 : decode (mC 133) 23 = .ok (.iload 4, 2) := by decide +kernel
theorem d_133_25 : decode (mC 133) 25 = .ok (.aload_n 0, 1) := by decide +kernel
theorem d_133_26 : decode (mC 133) 26 = .ok (.getfield 35, 3) := by decide +kernel
theorem cn_133 : (mN 133).cls = "CordLoft" := by decide +kernel
theorem d_133_29 : decode (mC 133) 29 = .ok (.getfield 231, 3) := by decide +kernel
theorem fk_CordLoft_231 : FK 0 "CordLoft" 231 4 6 := ⟨⟨_, rfl, by decide, List.mem_of_getElem? (i := 249) (by decide +kernel)⟩, rfl, by decide⟩
theorem d_133_32 : decode (mC 133) 32 = .ok (.if_icmp .ge 48, 3) := by decide +kernel
theorem d_133_35 : decode (mC 133) 35 = .ok (.iconst 1, 1) := by decide +kernel
theorem d_133_36 : decode (mC 133) 36 = .ok (.iload 4, 2) := by decide +kernel
theorem d_133_38 : decode (mC 133) 38 = .ok (.ishl, 1) := by decide +kernel
theorem d_133_39 : decode (mC 133) 39 = .ok (.istore 5, 2) := by decide +kernel
theorem ml_133 : mL 133 = 6 := by decide +kernel
theorem d_133_41 : decode (mC 133) 41 = .ok (.iload_n 1, 1) := by decide +kernel
theorem d_133_42 : decode (mC 133) 42 = .ok (.iload 5, 2) := by decide +kernel
theorem d_133_44 : decode (mC 133) 44 = .ok (.iand, 1) := by decide +kernel
theorem d_133_45 : decode (mC 133) 45 = .ok (.ifCond .eq 29, 3) := by decide +kernel
theorem d_133_74 : decode (mC 133) 74 = .ok (.iinc 4 1, 3) := by decide +kernel
theorem d_133_77 : decode (mC 133) 77 = .ok (.goto (-54), 3) := by decide +kernel
theorem d_133_48 : decode (mC 133) 48 = .ok (.aload_n 0, 1) := by decide +kernel
theorem d_133_49 : decode (mC 133) 49 = .ok (.getfield 67, 3) := by decide +kernel
theorem d_133_52 : decode (mC 133) 52 = .ok (.aload_n 0, 1) := by decide +kernel
theorem d_133_53 : decode (mC 133) 53 = .ok (.getfield 35, 3) := by decide +kernel
theorem d_133_56 : decode (mC 133) 56 = .ok (.iload_n 1, 1) := by decide +kernel
theorem d_133_57 : decode (mC 133) 57 = .ok (.iload 5, 2) := by decide +kernel
theorem d_133_59 : decode (mC 133) 59 = .ok (.iconst (-1), 1) := by decide +kernel
theorem d_133_60 : decode (mC 133) 60 = .ok (.ixor, 1) := by decide +kernel
theorem d_133_61 : decode (mC 133) 61 = .ok (.iand, 1) := by decide +kernel
theorem d_133_62 : decode (mC 133) 62 = .ok (.invokevirtual 227, 3) := by decide +kernel
theorem vk_133_227 : VK 133 227 130 2 6 := ⟨⟨List.mem_of_getElem? (i := 997) (by decide +kernel), by decide +kernel⟩, List.mem_of_getElem? (i := 998) (by decide +kernel), mo_130, m0_130, _, rfl, List.mem_of_getElem? (i := 999) (by decide +kernel), by decide⟩
theorem d_133_65 : decode (mC 133) 65 = .ok (.iload_n 2, 1) := by decide +kernel
theorem d_133_66 : decode (mC 133) 66 = .ok (.if_icmp .ne 8, 3) := by decide +kernel
theorem d_133_69 : decode (mC 133) 69 = .ok (.iload_n 3, 1) := by decide +kernel
theorem d_133_70 : decode (mC 133) 70 = .ok (.iload 5, 2) := by decide +kernel
theorem d_133_72 : decode (mC 133) 72 = .ok (.ior, 1) := by decide +kernel
theorem d_133_73 : decode (mC 133) 73 = .ok (.istore_n 3, 1) := by decide +kernel
theorem d_133_0 : decode (mC 133) 0 = .ok (.aload_n 0, 1) := by decide +kernel
theorem d_133_1 : decode (mC 133) 1 = .ok (.invokevirtual 223, 3) := by decide +kernel
theorem vk_133_223 : VK 133 223 129 0 11 := ⟨⟨List.mem_of_getElem? (i := 992) (by decide +kernel), by decide +kernel⟩, List.mem_of_getElem? (i := 994) (by decide +kernel), mo_129, m0_129, _, rfl, List.mem_of_getElem? (i := 22) (by decide +kernel), by decide⟩
theorem d_133_4 : decode (mC 133) 4 = .ok (.istore_n 1, 1) := by decide +kernel
theorem d_133_5 : decode (mC 133) 5 = .ok (.aload_n 0, 1) := by decide +kernel
theorem d_133_6 : decode (mC 133) 6 = .ok (.getfield 67, 3) := by decide +kernel
theorem d_133_9 : decode (mC 133) 9 = .ok (.aload_n 0, 1) := by decide +kernel
theorem d_133_10 : decode (mC 133) 10 = .ok (.getfield 35, 3) := by decide +kernel
theorem d_133_13 : decode (mC 133) 13 = .ok (.iload_n 1, 1) := by decide +kernel
theorem d_133_14 : decode (mC 133) 14 = .ok (.invokevirtual 227, 3) := by decide +kernel
theorem d_133_17 : decode (mC 133) 17 = .ok (.istore_n 2, 1) := by decide +kernel
theorem d_133_18 : decode (mC 133) 18 = .ok (.iconst 0, 1) := by decide +kernel
theorem d_133_19 : decode (mC 133) 19 = .ok (.istore_n 3, 1) := by decide +kernel
theorem d_133_20 : decode (mC 133) 20 = .ok (.iconst 0, 1) := by decide +kernel
theorem d_133_21 : decode (mC 133) 21 = .ok (.istore 4, 2) := by decide +kernel
theorem d_133_80 : decode (mC 133) 80 = .ok (.iload_n 3, 1) := by decide +kernel
theorem d_133_81 : decode (mC 133) 81 = .ok (.ireturn, 1) := by decide +kernel
theorem mr_133 : mR 133 = some .int := by decide +kernel
theorem d_135_9 : decode (mC 135) 9 = .ok (.iload_n 3, 1) := by decide +kernel
theorem d_135_10 : decode (mC 135) 10 = .ok (.aload_n 1, 1) := by decide +kernel
theorem d_135_11 : decode (mC 135) 11 = .ok (.invokevirtual 33, 3) := by decide +kernel
theorem vk_135_33 : VK 135 33 117 0 4 := ⟨⟨List.mem_of_getElem? (i := 942) (by decide +kernel), by decide +kernel⟩, List.mem_of_getElem? (i := 943) (by decide +kernel), mo_117, m0_117, _, rfl, List.mem_of_getElem? (i := 944) (by decide +kernel), by decide⟩
theorem d_135_14 : decode (mC 135) 14 = .ok (.if_icmp .gt 46, 3) := by decide +kernel
theorem d_135_17 : decode (mC 135) 17 = .ok (.iload_n 3, 1) := by decide +kernel
theorem d_135_18 : decode (mC 135) 18 = .ok (.aload_n 2, 1) := by decide +kernel
theorem d_135_19 : decode (mC 135) 19 = .ok (.getfield 37, 3) := by decide +kernel
theorem cn_135 : (mN 135).cls = "CordLoft$Sets" := by decide +kernel
theorem d_135_22 : decode (mC 135) 22 = .ok (.iand, 1) := by decide +kernel
theorem d_135_23 : decode (mC 135) 23 = .ok (.ifCond .ne 31, 3) := by decide +kernel
theorem d_135_54 : decode (mC 135) 54 = .ok (.iinc 3 1, 3) := by decide +kernel
theorem ml_135 : mL 135 = 5 := by decide +kernel
theorem d_135_57 : decode (mC 135) 57 = .ok (.goto (-48), 3) := by decide +kernel
theorem d_135_26 : decode (mC 135) 26 = .ok (.aload_n 2, 1) := by decide +kernel
theorem d_135_27 : decode (mC 135) 27 = .ok (.getfield 43, 3) := by decide +kernel
theorem d_135_30 : decode (mC 135) 30 = .ok (.aload_n 1, 1) := by decide +kernel
theorem d_135_31 : decode (mC 135) 31 = .ok (.getfield 46, 3) := by decide +kernel
theorem d_135_34 : decode (mC 135) 34 = .ok (.iload_n 3, 1) := by decide +kernel
theorem d_135_35 : decode (mC 135) 35 = .ok (.iaload, 1) := by decide +kernel
theorem d_135_36 : decode (mC 135) 36 = .ok (.ixor, 1) := by decide +kernel
theorem d_135_37 : decode (mC 135) 37 = .ok (.istore 4, 2) := by decide +kernel
theorem d_135_39 : decode (mC 135) 39 = .ok (.aload_n 0, 1) := by decide +kernel
theorem d_135_40 : decode (mC 135) 40 = .ok (.getfield 12, 3) := by decide +kernel
theorem d_135_43 : decode (mC 135) 43 = .ok (.iload 4, 2) := by decide +kernel
theorem d_135_45 : decode (mC 135) 45 = .ok (.invokestatic 52, 3) := by decide +kernel
theorem sk_135_52 : SKc 135 52 92 1 := ⟨⟨List.mem_of_getElem? (i := 958) (by decide +kernel), by decide +kernel⟩, List.mem_of_getElem? (i := 840) (by decide +kernel), mo_92, m0_92⟩
theorem d_135_48 : decode (mC 135) 48 = .ok (.ineg, 1) := by decide +kernel
theorem d_135_49 : decode (mC 135) 49 = .ok (.iload 4, 2) := by decide +kernel
theorem d_135_51 : decode (mC 135) 51 = .ok (.invokevirtual 58, 3) := by decide +kernel
theorem vk_135_58 : VK 135 58 121 2 1 := ⟨⟨List.mem_of_getElem? (i := 959) (by decide +kernel), by decide +kernel⟩, List.mem_of_getElem? (i := 960) (by decide +kernel), mo_121, m0_121, _, rfl, List.mem_of_getElem? (i := 961) (by decide +kernel), by decide⟩
theorem d_135_0 : decode (mC 135) 0 = .ok (.aload_n 0, 1) := by decide +kernel
theorem d_135_1 : decode (mC 135) 1 = .ok (.getfield 12, 3) := by decide +kernel
theorem d_135_4 : decode (mC 135) 4 = .ok (.invokevirtual 49, 3) := by decide +kernel
theorem vk_135_49 : VK 135 49 120 0 1 := ⟨⟨List.mem_of_getElem? (i := 954) (by decide +kernel), by decide +kernel⟩, List.mem_of_getElem? (i := 955) (by decide +kernel), mo_120, m0_120, _, rfl, List.mem_of_getElem? (i := 956) (by decide +kernel), by decide⟩
theorem d_135_7 : decode (mC 135) 7 = .ok (.iconst 0, 1) := by decide +kernel
theorem d_135_8 : decode (mC 135) 8 = .ok (.istore_n 3, 1) := by decide +kernel
theorem d_135_60 : decode (mC 135) 60 = .ok (.aload_n 0, 1) := by decide +kernel
theorem d_135_61 : decode (mC 135) 61 = .ok (.getfield 12, 3) := by decide +kernel
theorem d_135_64 : decode (mC 135) 64 = .ok (.getfield 62, 3) := by decide +kernel
theorem d_135_67 : decode (mC 135) 67 = .ok (.ireturn, 1) := by decide +kernel
theorem mr_135 : mR 135 = some .int := by decide +kernel
theorem d_134_0 : decode (mC 134) 0 = .ok (.aload_n 0, 1) := by decide +kernel
theorem d_134_1 : decode (mC 134) 1 = .ok (.getfield 67, 3) := by decide +kernel
theorem cn_134 : (mN 134).cls = "CordLoft" := by decide +kernel
theorem d_134_4 : decode (mC 134) 4 = .ok (.aload_n 0, 1) := by decide +kernel
theorem d_134_5 : decode (mC 134) 5 = .ok (.getfield 35, 3) := by decide +kernel
theorem d_134_8 : decode (mC 134) 8 = .ok (.aload_n 0, 1) := by decide +kernel
theorem d_134_9 : decode (mC 134) 9 = .ok (.getfield 45, 3) := by decide +kernel
theorem d_134_12 : decode (mC 134) 12 = .ok (.invokevirtual 114, 3) := by decide +kernel
theorem vk_134_114 : VK 134 114 78 0 0 := ⟨⟨List.mem_of_getElem? (i := 784) (by decide +kernel), by decide +kernel⟩, List.mem_of_getElem? (i := 785) (by decide +kernel), mo_78, m0_78, _, rfl, List.mem_of_getElem? (i := 786) (by decide +kernel), by decide⟩
theorem d_134_15 : decode (mC 134) 15 = .ok (.invokevirtual 234, 3) := by decide +kernel
theorem mo_135 : MOK 135 := ⟨List.mem_of_getElem? (i := 1020) (by decide +kernel), by decide +kernel, ⟨by decide +kernel, by decide +kernel⟩, List.mem_of_getElem? (i := 96) (by decide +kernel), by decide +kernel⟩
theorem m0_135 : M0K 135 := ⟨by decide +kernel, by decide +kernel⟩
theorem vk_134_234 : VK 134 234 135 2 6 := ⟨⟨List.mem_of_getElem? (i := 1017) (by decide +kernel), by decide +kernel⟩, List.mem_of_getElem? (i := 1018) (by decide +kernel), mo_135, m0_135, _, rfl, List.mem_of_getElem? (i := 1019) (by decide +kernel), by decide⟩
theorem d_134_18 : decode (mC 134) 18 = .ok (.istore_n 2, 1) := by decide +kernel
theorem ml_134 : mL 134 = 3 := by decide +kernel
theorem d_134_19 : decode (mC 134) 19 = .ok (.iload_n 1, 1) := by decide +kernel
theorem d_134_20 : decode (mC 134) 20 = .ok (.iload_n 2, 1) := by decide +kernel
theorem d_134_21 : decode (mC 134) 21 = .ok (.invokestatic 167, 3) := by decide +kernel
theorem sk_134_167 : SKc 134 167 92 1 := ⟨⟨List.mem_of_getElem? (i := 839) (by decide +kernel), by decide +kernel⟩, List.mem_of_getElem? (i := 840) (by decide +kernel), mo_92, m0_92⟩
theorem d_134_24 : decode (mC 134) 24 = .ok (.iload_n 2, 1) := by decide +kernel
theorem d_134_25 : decode (mC 134) 25 = .ok (.invokestatic 132, 3) := by decide +kernel
theorem sk_134_132 : SKc 134 132 84 3 := ⟨⟨List.mem_of_getElem? (i := 808) (by decide +kernel), by decide +kernel⟩, List.mem_of_getElem? (i := 809) (by decide +kernel), mo_84, m0_84⟩
theorem d_134_28 : decode (mC 134) 28 = .ok (.ireturn, 1) := by decide +kernel
theorem mr_134 : mR 134 = some .int := by decide +kernel
theorem d_138_4 : decode (mC 138) 4 = .ok (.iload_n 3, 1) := by decide +kernel
theorem d_138_5 : decode (mC 138) 5 = .ok (.aload_n 0, 1) := by decide +kernel
theorem d_138_6 : decode (mC 138) 6 = .ok (.getfield 51, 3) := by decide +kernel
theorem cn_138 : (mN 138).cls = "CordLoft$Plan" := by decide +kernel
theorem d_138_9 : decode (mC 138) 9 = .ok (.if_icmp .ge 24, 3) := by decide +kernel
theorem d_138_12 : decode (mC 138) 12 = .ok (.iload_n 2, 1) := by decide +kernel
theorem d_138_13 : decode (mC 138) 13 = .ok (.iload_n 1, 1) := by decide +kernel
theorem d_138_14 : decode (mC 138) 14 = .ok (.iload_n 3, 1) := by decide +kernel
theorem d_138_15 : decode (mC 138) 15 = .ok (.ishr, 1) := by decide +kernel
theorem d_138_16 : decode (mC 138) 16 = .ok (.iconst 1, 1) := by decide +kernel
theorem d_138_17 : decode (mC 138) 17 = .ok (.iand, 1) := by decide +kernel
theorem d_138_18 : decode (mC 138) 18 = .ok (.aload_n 0, 1) := by decide +kernel
theorem d_138_19 : decode (mC 138) 19 = .ok (.getfield 15, 3) := by decide +kernel
theorem d_138_22 : decode (mC 138) 22 = .ok (.iload_n 3, 1) := by decide +kernel
theorem d_138_23 : decode (mC 138) 23 = .ok (.iaload, 1) := by decide +kernel
theorem d_138_24 : decode (mC 138) 24 = .ok (.imul, 1) := by decide +kernel
theorem d_138_25 : decode (mC 138) 25 = .ok (.iadd, 1) := by decide +kernel
theorem d_138_26 : decode (mC 138) 26 = .ok (.istore_n 2, 1) := by decide +kernel
theorem ml_138 : mL 138 = 4 := by decide +kernel
theorem d_138_27 : decode (mC 138) 27 = .ok (.iinc 3 1, 3) := by decide +kernel
theorem d_138_30 : decode (mC 138) 30 = .ok (.goto (-26), 3) := by decide +kernel
theorem d_138_0 : decode (mC 138) 0 = .ok (.iconst 0, 1) := by decide +kernel
theorem d_138_1 : decode (mC 138) 1 = .ok (.istore_n 2, 1) := by decide +kernel
theorem d_138_2 : decode (mC 138) 2 = .ok (.iconst 0, 1) := by decide +kernel
theorem d_138_3 : decode (mC 138) 3 = .ok (.istore_n 3, 1) := by decide +kernel
theorem d_138_33 : decode (mC 138) 33 = .ok (.iload_n 2, 1) := by decide +kernel
theorem d_138_34 : decode (mC 138) 34 = .ok (.ireturn, 1) := by decide +kernel
theorem mr_138 : mR 138 = some .int := by decide +kernel
theorem d_137_9 : decode (mC 137) 9 = .ok (.iload_n 3, 1) := by decide +kernel
theorem d_137_10 : decode (mC 137) 10 = .ok (.aload_n 1, 1) := by decide +kernel
theorem d_137_11 : decode (mC 137) 11 = .ok (.invokevirtual 33, 3) := by decide +kernel
theorem vk_137_33 : VK 137 33 117 0 4 := ⟨⟨List.mem_of_getElem? (i := 942) (by decide +kernel), by decide +kernel⟩, List.mem_of_getElem? (i := 943) (by decide +kernel), mo_117, m0_117, _, rfl, List.mem_of_getElem? (i := 944) (by decide +kernel), by decide⟩
theorem d_137_14 : decode (mC 137) 14 = .ok (.if_icmp .gt 46, 3) := by decide +kernel
theorem d_137_17 : decode (mC 137) 17 = .ok (.iload_n 3, 1) := by decide +kernel
theorem d_137_18 : decode (mC 137) 18 = .ok (.aload_n 2, 1) := by decide +kernel
theorem d_137_19 : decode (mC 137) 19 = .ok (.getfield 37, 3) := by decide +kernel
theorem cn_137 : (mN 137).cls = "CordLoft$Sets" := by decide +kernel
theorem d_137_22 : decode (mC 137) 22 = .ok (.iand, 1) := by decide +kernel
theorem d_137_23 : decode (mC 137) 23 = .ok (.ifCond .ne 31, 3) := by decide +kernel
theorem d_137_54 : decode (mC 137) 54 = .ok (.iinc 3 1, 3) := by decide +kernel
theorem ml_137 : mL 137 = 5 := by decide +kernel
theorem d_137_57 : decode (mC 137) 57 = .ok (.goto (-48), 3) := by decide +kernel
theorem d_137_26 : decode (mC 137) 26 = .ok (.aload_n 2, 1) := by decide +kernel
theorem d_137_27 : decode (mC 137) 27 = .ok (.getfield 43, 3) := by decide +kernel
theorem d_137_30 : decode (mC 137) 30 = .ok (.aload_n 1, 1) := by decide +kernel
theorem d_137_31 : decode (mC 137) 31 = .ok (.getfield 46, 3) := by decide +kernel
theorem d_137_34 : decode (mC 137) 34 = .ok (.iload_n 3, 1) := by decide +kernel
theorem d_137_35 : decode (mC 137) 35 = .ok (.iaload, 1) := by decide +kernel
theorem d_137_36 : decode (mC 137) 36 = .ok (.ixor, 1) := by decide +kernel
theorem d_137_37 : decode (mC 137) 37 = .ok (.istore 4, 2) := by decide +kernel
theorem d_137_39 : decode (mC 137) 39 = .ok (.aload_n 0, 1) := by decide +kernel
theorem d_137_40 : decode (mC 137) 40 = .ok (.getfield 12, 3) := by decide +kernel
theorem d_137_43 : decode (mC 137) 43 = .ok (.aload_n 1, 1) := by decide +kernel
theorem d_137_44 : decode (mC 137) 44 = .ok (.iload 4, 2) := by decide +kernel
theorem d_137_46 : decode (mC 137) 46 = .ok (.invokevirtual 68, 3) := by decide +kernel
theorem mo_138 : MOK 138 := ⟨List.mem_of_getElem? (i := 1032) (by decide +kernel), by decide +kernel, ⟨by decide +kernel, by decide +kernel⟩, List.mem_of_getElem? (i := 92) (by decide +kernel), by decide +kernel⟩
theorem m0_138 : M0K 138 := ⟨by decide +kernel, by decide +kernel⟩
theorem vk_137_68 : VK 137 68 138 1 4 := ⟨⟨List.mem_of_getElem? (i := 1029) (by decide +kernel), by decide +kernel⟩, List.mem_of_getElem? (i := 1030) (by decide +kernel), mo_138, m0_138, _, rfl, List.mem_of_getElem? (i := 1031) (by decide +kernel), by decide⟩
theorem d_137_49 : decode (mC 137) 49 = .ok (.iload 4, 2) := by decide +kernel
theorem d_137_51 : decode (mC 137) 51 = .ok (.invokevirtual 58, 3) := by decide +kernel
theorem vk_137_58 : VK 137 58 121 2 1 := ⟨⟨List.mem_of_getElem? (i := 959) (by decide +kernel), by decide +kernel⟩, List.mem_of_getElem? (i := 960) (by decide +kernel), mo_121, m0_121, _, rfl, List.mem_of_getElem? (i := 961) (by decide +kernel), by decide⟩
theorem d_137_0 : decode (mC 137) 0 = .ok (.aload_n 0, 1) := by decide +kernel
theorem d_137_1 : decode (mC 137) 1 = .ok (.getfield 12, 3) := by decide +kernel
theorem d_137_4 : decode (mC 137) 4 = .ok (.invokevirtual 49, 3) := by decide +kernel
theorem vk_137_49 : VK 137 49 120 0 1 := ⟨⟨List.mem_of_getElem? (i := 954) (by decide +kernel), by decide +kernel⟩, List.mem_of_getElem? (i := 955) (by decide +kernel), mo_120, m0_120, _, rfl, List.mem_of_getElem? (i := 956) (by decide +kernel), by decide⟩
theorem d_137_7 : decode (mC 137) 7 = .ok (.iconst 0, 1) := by decide +kernel
theorem d_137_8 : decode (mC 137) 8 = .ok (.istore_n 3, 1) := by decide +kernel
theorem d_137_60 : decode (mC 137) 60 = .ok (.aload_n 0, 1) := by decide +kernel
theorem d_137_61 : decode (mC 137) 61 = .ok (.getfield 12, 3) := by decide +kernel
theorem d_137_64 : decode (mC 137) 64 = .ok (.getfield 62, 3) := by decide +kernel
theorem d_137_67 : decode (mC 137) 67 = .ok (.ireturn, 1) := by decide +kernel
theorem mr_137 : mR 137 = some .int := by decide +kernel
theorem d_136_0 : decode (mC 136) 0 = .ok (.aload_n 0, 1) := by decide +kernel
theorem d_136_1 : decode (mC 136) 1 = .ok (.getfield 67, 3) := by decide +kernel
theorem cn_136 : (mN 136).cls = "CordLoft" := by decide +kernel
theorem d_136_4 : decode (mC 136) 4 = .ok (.aload_n 0, 1) := by decide +kernel
theorem d_136_5 : decode (mC 136) 5 = .ok (.getfield 35, 3) := by decide +kernel
theorem d_136_8 : decode (mC 136) 8 = .ok (.aload_n 0, 1) := by decide +kernel
theorem d_136_9 : decode (mC 136) 9 = .ok (.getfield 45, 3) := by decide +kernel
theorem d_136_12 : decode (mC 136) 12 = .ok (.invokevirtual 114, 3) := by decide +kernel
theorem vk_136_114 : VK 136 114 78 0 0 := ⟨⟨List.mem_of_getElem? (i := 784) (by decide +kernel), by decide +kernel⟩, List.mem_of_getElem? (i := 785) (by decide +kernel), mo_78, m0_78, _, rfl, List.mem_of_getElem? (i := 786) (by decide +kernel), by decide⟩
theorem d_136_15 : decode (mC 136) 15 = .ok (.invokevirtual 237, 3) := by decide +kernel
theorem mo_137 : MOK 137 := ⟨List.mem_of_getElem? (i := 1028) (by decide +kernel), by decide +kernel, ⟨by decide +kernel, by decide +kernel⟩, List.mem_of_getElem? (i := 96) (by decide +kernel), by decide +kernel⟩
theorem m0_137 : M0K 137 := ⟨by decide +kernel, by decide +kernel⟩
theorem vk_136_237 : VK 136 237 137 2 6 := ⟨⟨List.mem_of_getElem? (i := 1025) (by decide +kernel), by decide +kernel⟩, List.mem_of_getElem? (i := 1026) (by decide +kernel), mo_137, m0_137, _, rfl, List.mem_of_getElem? (i := 1027) (by decide +kernel), by decide⟩
theorem d_136_18 : decode (mC 136) 18 = .ok (.istore_n 2, 1) := by decide +kernel
theorem ml_136 : mL 136 = 3 := by decide +kernel
theorem d_136_19 : decode (mC 136) 19 = .ok (.iload_n 1, 1) := by decide +kernel
theorem d_136_20 : decode (mC 136) 20 = .ok (.aload_n 0, 1) := by decide +kernel
theorem d_136_21 : decode (mC 136) 21 = .ok (.getfield 35, 3) := by decide +kernel
theorem d_136_24 : decode (mC 136) 24 = .ok (.iload_n 2, 1) := by decide +kernel
theorem d_136_25 : decode (mC 136) 25 = .ok (.invokevirtual 240, 3) := by decide +kernel
theorem vk_136_240 : VK 136 240 138 1 4 := ⟨⟨List.mem_of_getElem? (i := 1033) (by decide +kernel), by decide +kernel⟩, List.mem_of_getElem? (i := 1030) (by decide +kernel), mo_138, m0_138, _, rfl, List.mem_of_getElem? (i := 1031) (by decide +kernel), by decide⟩
theorem d_136_28 : decode (mC 136) 28 = .ok (.iload_n 2, 1) := by decide +kernel
theorem d_136_29 : decode (mC 136) 29 = .ok (.invokestatic 132, 3) := by decide +kernel
theorem sk_136_132 : SKc 136 132 84 3 := ⟨⟨List.mem_of_getElem? (i := 808) (by decide +kernel), by decide +kernel⟩, List.mem_of_getElem? (i := 809) (by decide +kernel), mo_84, m0_84⟩
theorem d_136_32 : decode (mC 136) 32 = .ok (.ireturn, 1) := by decide +kernel
theorem mr_136 : mR 136 = some .int := by decide +kernel
theorem d_140_10 : decode (mC 140) 10 = .ok (.iload 4, 2) := by decide +kernel
theorem d_140_12 : decode (mC 140) 12 = .ok (.aload_n 1, 1) := by decide +kernel
theorem d_140_13 : decode (mC 140) 13 = .ok (.invokevirtual 33, 3) := by decide +kernel
theorem vk_140_33 : VK 140 33 117 0 4 := ⟨⟨List.mem_of_getElem? (i := 942) (by decide +kernel), by decide +kernel⟩, List.mem_of_getElem? (i := 943) (by decide +kernel), mo_117, m0_117, _, rfl, List.mem_of_getElem? (i := 944) (by decide +kernel), by decide⟩
theorem d_140_16 : decode (mC 140) 16 = .ok (.if_icmp .gt 49, 3) := by decide +kernel
theorem d_140_19 : decode (mC 140) 19 = .ok (.iload 4, 2) := by decide +kernel
theorem d_140_21 : decode (mC 140) 21 = .ok (.aload_n 2, 1) := by decide +kernel
theorem d_140_22 : decode (mC 140) 22 = .ok (.getfield 37, 3) := by decide +kernel
theorem cn_140 : (mN 140).cls = "CordLoft$Sets" := by decide +kernel
theorem d_140_25 : decode (mC 140) 25 = .ok (.iand, 1) := by decide +kernel
theorem d_140_26 : decode (mC 140) 26 = .ok (.ifCond .ne 33, 3) := by decide +kernel
theorem d_140_59 : decode (mC 140) 59 = .ok (.iinc 4 1, 3) := by decide +kernel
theorem ml_140 : mL 140 = 6 := by decide +kernel
theorem d_140_62 : decode (mC 140) 62 = .ok (.goto (-52), 3) := by decide +kernel
theorem d_140_29 : decode (mC 140) 29 = .ok (.aload_n 2, 1) := by decide +kernel
theorem d_140_30 : decode (mC 140) 30 = .ok (.getfield 43, 3) := by decide +kernel
theorem d_140_33 : decode (mC 140) 33 = .ok (.aload_n 1, 1) := by decide +kernel
theorem d_140_34 : decode (mC 140) 34 = .ok (.getfield 46, 3) := by decide +kernel
theorem d_140_37 : decode (mC 140) 37 = .ok (.iload 4, 2) := by decide +kernel
theorem d_140_39 : decode (mC 140) 39 = .ok (.iaload, 1) := by decide +kernel
theorem d_140_40 : decode (mC 140) 40 = .ok (.ixor, 1) := by decide +kernel
theorem d_140_41 : decode (mC 140) 41 = .ok (.istore 5, 2) := by decide +kernel
theorem d_140_43 : decode (mC 140) 43 = .ok (.aload_n 0, 1) := by decide +kernel
theorem d_140_44 : decode (mC 140) 44 = .ok (.getfield 12, 3) := by decide +kernel
theorem d_140_47 : decode (mC 140) 47 = .ok (.iload 5, 2) := by decide +kernel
theorem d_140_49 : decode (mC 140) 49 = .ok (.iload_n 3, 1) := by decide +kernel
theorem d_140_50 : decode (mC 140) 50 = .ok (.ixor, 1) := by decide +kernel
theorem d_140_51 : decode (mC 140) 51 = .ok (.invokestatic 52, 3) := by decide +kernel
theorem sk_140_52 : SKc 140 52 92 1 := ⟨⟨List.mem_of_getElem? (i := 958) (by decide +kernel), by decide +kernel⟩, List.mem_of_getElem? (i := 840) (by decide +kernel), mo_92, m0_92⟩
theorem d_140_54 : decode (mC 140) 54 = .ok (.iload 5, 2) := by decide +kernel
theorem d_140_56 : decode (mC 140) 56 = .ok (.invokevirtual 58, 3) := by decide +kernel
theorem vk_140_58 : VK 140 58 121 2 1 := ⟨⟨List.mem_of_getElem? (i := 959) (by decide +kernel), by decide +kernel⟩, List.mem_of_getElem? (i := 960) (by decide +kernel), mo_121, m0_121, _, rfl, List.mem_of_getElem? (i := 961) (by decide +kernel), by decide⟩
theorem d_140_0 : decode (mC 140) 0 = .ok (.aload_n 0, 1) := by decide +kernel
theorem d_140_1 : decode (mC 140) 1 = .ok (.getfield 12, 3) := by decide +kernel
theorem d_140_4 : decode (mC 140) 4 = .ok (.invokevirtual 49, 3) := by decide +kernel
theorem vk_140_49 : VK 140 49 120 0 1 := ⟨⟨List.mem_of_getElem? (i := 954) (by decide +kernel), by decide +kernel⟩, List.mem_of_getElem? (i := 955) (by decide +kernel), mo_120, m0_120, _, rfl, List.mem_of_getElem? (i := 956) (by decide +kernel), by decide⟩
theorem d_140_7 : decode (mC 140) 7 = .ok (.iconst 0, 1) := by decide +kernel
theorem d_140_8 : decode (mC 140) 8 = .ok (.istore 4, 2) := by decide +kernel
theorem d_140_65 : decode (mC 140) 65 = .ok (.aload_n 0, 1) := by decide +kernel
theorem d_140_66 : decode (mC 140) 66 = .ok (.getfield 12, 3) := by decide +kernel
theorem d_140_69 : decode (mC 140) 69 = .ok (.getfield 62, 3) := by decide +kernel
theorem d_140_72 : decode (mC 140) 72 = .ok (.ireturn, 1) := by decide +kernel
theorem mr_140 : mR 140 = some .int := by decide +kernel
theorem d_139_0 : decode (mC 139) 0 = .ok (.aload_n 0, 1) := by decide +kernel
theorem d_139_1 : decode (mC 139) 1 = .ok (.getfield 35, 3) := by decide +kernel
theorem cn_139 : (mN 139).cls = "CordLoft" := by decide +kernel
theorem d_139_4 : decode (mC 139) 4 = .ok (.iload_n 1, 1) := by decide +kernel
theorem d_139_5 : decode (mC 139) 5 = .ok (.invokevirtual 203, 3) := by decide +kernel
theorem vk_139_203 : VK 139 203 114 1 4 := ⟨⟨List.mem_of_getElem? (i := 930) (by decide +kernel), by decide +kernel⟩, List.mem_of_getElem? (i := 931) (by decide +kernel), mo_114, m0_114, _, rfl, List.mem_of_getElem? (i := 932) (by decide +kernel), by decide⟩
theorem d_139_8 : decode (mC 139) 8 = .ok (.ifCond .ne 5, 3) := by decide +kernel
theorem d_139_13 : decode (mC 139) 13 = .ok (.aload_n 0, 1) := by decide +kernel
theorem d_139_14 : decode (mC 139) 14 = .ok (.getfield 67, 3) := by decide +kernel
theorem d_139_17 : decode (mC 139) 17 = .ok (.aload_n 0, 1) := by decide +kernel
theorem d_139_18 : decode (mC 139) 18 = .ok (.getfield 35, 3) := by decide +kernel
theorem d_139_21 : decode (mC 139) 21 = .ok (.aload_n 0, 1) := by decide +kernel
theorem d_139_22 : decode (mC 139) 22 = .ok (.getfield 45, 3) := by decide +kernel
theorem d_139_25 : decode (mC 139) 25 = .ok (.invokevirtual 114, 3) := by decide +kernel
theorem vk_139_114 : VK 139 114 78 0 0 := ⟨⟨List.mem_of_getElem? (i := 784) (by decide +kernel), by decide +kernel⟩, List.mem_of_getElem? (i := 785) (by decide +kernel), mo_78, m0_78, _, rfl, List.mem_of_getElem? (i := 786) (by decide +kernel), by decide⟩
theorem d_139_28 : decode (mC 139) 28 = .ok (.iload_n 1, 1) := by decide +kernel
theorem d_139_29 : decode (mC 139) 29 = .ok (.invokevirtual 243, 3) := by decide +kernel
theorem mo_140 : MOK 140 := ⟨List.mem_of_getElem? (i := 1041) (by decide +kernel), by decide +kernel, ⟨by decide +kernel, by decide +kernel⟩, List.mem_of_getElem? (i := 96) (by decide +kernel), by decide +kernel⟩
theorem m0_140 : M0K 140 := ⟨by decide +kernel, by decide +kernel⟩
theorem vk_139_243 : VK 139 243 140 3 6 := ⟨⟨List.mem_of_getElem? (i := 1038) (by decide +kernel), by decide +kernel⟩, List.mem_of_getElem? (i := 1039) (by decide +kernel), mo_140, m0_140, _, rfl, List.mem_of_getElem? (i := 1040) (by decide +kernel), by decide⟩
theorem d_139_32 : decode (mC 139) 32 = .ok (.istore_n 3, 1) := by decide +kernel
theorem ml_139 : mL 139 = 4 := by decide +kernel
theorem d_139_33 : decode (mC 139) 33 = .ok (.iload_n 2, 1) := by decide +kernel
theorem d_139_34 : decode (mC 139) 34 = .ok (.iload_n 3, 1) := by decide +kernel
theorem d_139_35 : decode (mC 139) 35 = .ok (.iload_n 1, 1) := by decide +kernel
theorem d_139_36 : decode (mC 139) 36 = .ok (.ixor, 1) := by decide +kernel
theorem d_139_37 : decode (mC 139) 37 = .ok (.invokestatic 167, 3) := by decide +kernel
theorem sk_139_167 : SKc 139 167 92 1 := ⟨⟨List.mem_of_getElem? (i := 839) (by decide +kernel), by decide +kernel⟩, List.mem_of_getElem? (i := 840) (by decide +kernel), mo_92, m0_92⟩
theorem d_139_40 : decode (mC 139) 40 = .ok (.iload_n 3, 1) := by decide +kernel
theorem d_139_41 : decode (mC 139) 41 = .ok (.invokestatic 132, 3) := by decide +kernel
theorem sk_139_132 : SKc 139 132 84 3 := ⟨⟨List.mem_of_getElem? (i := 808) (by decide +kernel), by decide +kernel⟩, List.mem_of_getElem? (i := 809) (by decide +kernel), mo_84, m0_84⟩
theorem d_139_44 : decode (mC 139) 44 = .ok (.ireturn, 1) := by decide +kernel
theorem mr_139 : mR 139 = some .int := by decide +kernel
theorem d_139_11 : decode (mC 139) 11 = .ok (.iconst (-1), 1) := by decide +kernel
theorem d_139_12 : decode (mC 139) 12 = .ok (.ireturn, 1) := by decide +kernel
theorem d_142_9 : decode (mC 142) 9 = .ok (.iload_n 3, 1) := by decide +kernel
theorem d_142_10 : decode (mC 142) 10 = .ok (.aload_n 1, 1) := by decide +kernel
theorem d_142_11 : decode (mC 142) 11 = .ok (.invokevirtual 33, 3) := by decide +kernel
theorem vk_142_33 : VK 142 33 117 0 4 := ⟨⟨List.mem_of_getElem? (i := 942) (by decide +kernel), by decide +kernel⟩, List.mem_of_getElem? (i := 943) (by decide +kernel), mo_117, m0_117, _, rfl, List.mem_of_getElem? (i := 944) (by decide +kernel), by decide⟩
theorem d_142_14 : decode (mC 142) 14 = .ok (.if_icmp .gt 45, 3) := by decide +kernel
theorem d_142_17 : decode (mC 142) 17 = .ok (.aload_n 1, 1) := by decide +kernel
theorem d_142_18 : decode (mC 142) 18 = .ok (.getfield 46, 3) := by decide +kernel
theorem cn_142 : (mN 142).cls = "CordLoft$Sets" := by decide +kernel
theorem d_142_21 : decode (mC 142) 21 = .ok (.iload_n 3, 1) := by decide +kernel
theorem d_142_22 : decode (mC 142) 22 = .ok (.iaload, 1) := by decide +kernel
theorem d_142_23 : decode (mC 142) 23 = .ok (.istore 4, 2) := by decide +kernel
theorem ml_142 : mL 142 = 5 := by decide +kernel
theorem d_142_25 : decode (mC 142) 25 = .ok (.iload_n 3, 1) := by decide +kernel
theorem d_142_26 : decode (mC 142) 26 = .ok (.aload_n 2, 1) := by decide +kernel
theorem d_142_27 : decode (mC 142) 27 = .ok (.getfield 37, 3) := by decide +kernel
theorem d_142_30 : decode (mC 142) 30 = .ok (.iand, 1) := by decide +kernel
theorem d_142_31 : decode (mC 142) 31 = .ok (.ifCond .ne 22, 3) := by decide +kernel
theorem d_142_53 : decode (mC 142) 53 = .ok (.iinc 3 1, 3) := by decide +kernel
theorem d_142_56 : decode (mC 142) 56 = .ok (.goto (-47), 3) := by decide +kernel
theorem d_142_34 : decode (mC 142) 34 = .ok (.iload 4, 2) := by decide +kernel
theorem d_142_36 : decode (mC 142) 36 = .ok (.ifCond .eq 17, 3) := by decide +kernel
theorem d_142_39 : decode (mC 142) 39 = .ok (.aload_n 0, 1) := by decide +kernel
theorem d_142_40 : decode (mC 142) 40 = .ok (.getfield 12, 3) := by decide +kernel
theorem d_142_43 : decode (mC 142) 43 = .ok (.iload 4, 2) := by decide +kernel
theorem d_142_45 : decode (mC 142) 45 = .ok (.invokestatic 52, 3) := by decide +kernel
theorem sk_142_52 : SKc 142 52 92 1 := ⟨⟨List.mem_of_getElem? (i := 958) (by decide +kernel), by decide +kernel⟩, List.mem_of_getElem? (i := 840) (by decide +kernel), mo_92, m0_92⟩
theorem d_142_48 : decode (mC 142) 48 = .ok (.iload 4, 2) := by decide +kernel
theorem d_142_50 : decode (mC 142) 50 = .ok (.invokevirtual 58, 3) := by decide +kernel
theorem vk_142_58 : VK 142 58 121 2 1 := ⟨⟨List.mem_of_getElem? (i := 959) (by decide +kernel), by decide +kernel⟩, List.mem_of_getElem? (i := 960) (by decide +kernel), mo_121, m0_121, _, rfl, List.mem_of_getElem? (i := 961) (by decide +kernel), by decide⟩
theorem d_142_0 : decode (mC 142) 0 = .ok (.aload_n 0, 1) := by decide +kernel
theorem d_142_1 : decode (mC 142) 1 = .ok (.getfield 12, 3) := by decide +kernel
theorem d_142_4 : decode (mC 142) 4 = .ok (.invokevirtual 49, 3) := by decide +kernel
theorem vk_142_49 : VK 142 49 120 0 1 := ⟨⟨List.mem_of_getElem? (i := 954) (by decide +kernel), by decide +kernel⟩, List.mem_of_getElem? (i := 955) (by decide +kernel), mo_120, m0_120, _, rfl, List.mem_of_getElem? (i := 956) (by decide +kernel), by decide⟩
theorem d_142_7 : decode (mC 142) 7 = .ok (.iconst 1, 1) := by decide +kernel
theorem d_142_8 : decode (mC 142) 8 = .ok (.istore_n 3, 1) := by decide +kernel
theorem d_142_59 : decode (mC 142) 59 = .ok (.aload_n 0, 1) := by decide +kernel
theorem d_142_60 : decode (mC 142) 60 = .ok (.getfield 12, 3) := by decide +kernel
theorem d_142_63 : decode (mC 142) 63 = .ok (.getfield 62, 3) := by decide +kernel
theorem d_142_66 : decode (mC 142) 66 = .ok (.ireturn, 1) := by decide +kernel
theorem mr_142 : mR 142 = some .int := by decide +kernel
theorem d_141_0 : decode (mC 141) 0 = .ok (.aload_n 0, 1) := by decide +kernel
theorem d_141_1 : decode (mC 141) 1 = .ok (.getfield 67, 3) := by decide +kernel
theorem cn_141 : (mN 141).cls = "CordLoft" := by decide +kernel
theorem d_141_4 : decode (mC 141) 4 = .ok (.aload_n 0, 1) := by decide +kernel
theorem d_141_5 : decode (mC 141) 5 = .ok (.getfield 35, 3) := by decide +kernel
theorem d_141_8 : decode (mC 141) 8 = .ok (.aload_n 0, 1) := by decide +kernel
theorem d_141_9 : decode (mC 141) 9 = .ok (.getfield 45, 3) := by decide +kernel
theorem d_141_12 : decode (mC 141) 12 = .ok (.invokevirtual 114, 3) := by decide +kernel
theorem vk_141_114 : VK 141 114 78 0 0 := ⟨⟨List.mem_of_getElem? (i := 784) (by decide +kernel), by decide +kernel⟩, List.mem_of_getElem? (i := 785) (by decide +kernel), mo_78, m0_78, _, rfl, List.mem_of_getElem? (i := 786) (by decide +kernel), by decide⟩
theorem d_141_15 : decode (mC 141) 15 = .ok (.invokevirtual 246, 3) := by decide +kernel
theorem mo_142 : MOK 142 := ⟨List.mem_of_getElem? (i := 1049) (by decide +kernel), by decide +kernel, ⟨by decide +kernel, by decide +kernel⟩, List.mem_of_getElem? (i := 96) (by decide +kernel), by decide +kernel⟩
theorem m0_142 : M0K 142 := ⟨by decide +kernel, by decide +kernel⟩
theorem vk_141_246 : VK 141 246 142 2 6 := ⟨⟨List.mem_of_getElem? (i := 1046) (by decide +kernel), by decide +kernel⟩, List.mem_of_getElem? (i := 1047) (by decide +kernel), mo_142, m0_142, _, rfl, List.mem_of_getElem? (i := 1048) (by decide +kernel), by decide⟩
theorem d_141_18 : decode (mC 141) 18 = .ok (.istore_n 2, 1) := by decide +kernel
theorem ml_141 : mL 141 = 3 := by decide +kernel
theorem d_141_19 : decode (mC 141) 19 = .ok (.iload_n 2, 1) := by decide +kernel
theorem d_141_20 : decode (mC 141) 20 = .ok (.ifCond .ge 7, 3) := by decide +kernel
theorem d_141_27 : decode (mC 141) 27 = .ok (.iload_n 1, 1) := by decide +kernel
theorem d_141_28 : decode (mC 141) 28 = .ok (.iload_n 2, 1) := by decide +kernel
theorem d_141_29 : decode (mC 141) 29 = .ok (.invokestatic 167, 3) := by decide +kernel
theorem sk_141_167 : SKc 141 167 92 1 := ⟨⟨List.mem_of_getElem? (i := 839) (by decide +kernel), by decide +kernel⟩, List.mem_of_getElem? (i := 840) (by decide +kernel), mo_92, m0_92⟩
theorem d_141_32 : decode (mC 141) 32 = .ok (.iload_n 2, 1) := by decide +kernel
theorem d_141_33 : decode (mC 141) 33 = .ok (.invokestatic 132, 3) := by decide +kernel
theorem sk_141_132 : SKc 141 132 84 3 := ⟨⟨List.mem_of_getElem? (i := 808) (by decide +kernel), by decide +kernel⟩, List.mem_of_getElem? (i := 809) (by decide +kernel), mo_84, m0_84⟩
theorem d_141_36 : decode (mC 141) 36 = .ok (.ireturn, 1) := by decide +kernel
theorem mr_141 : mR 141 = some .int := by decide +kernel
theorem d_141_23 : decode (mC 141) 23 = .ok (.iconst (-1), 1) := by decide +kernel
theorem d_141_24 : decode (mC 141) 24 = .ok (.goto 12, 3) := by decide +kernel
theorem d_144_63 : decode (mC 144) 63 = .ok (.iconst 1, 1) := by decide +kernel
theorem d_144_64 : decode (mC 144) 64 = .ok (.goto 4, 3) := by decide +kernel
theorem d_144_68 : decode (mC 144) 68 = .ok (.istore 4, 2) := by decide +kernel
theorem ml_144 : mL 144 = 6 := by decide +kernel
theorem d_144_70 : decode (mC 144) 70 = .ok (.iinc 5 1, 3) := by decide +kernel
theorem d_144_73 : decode (mC 144) 73 = .ok (.goto (-50), 3) := by decide +kernel
theorem d_144_23 : decode (mC 144) 23 = .ok (.iload 5, 2) := by decide +kernel
theorem d_144_25 : decode (mC 144) 25 = .ok (.aload_n 1, 1) := by decide +kernel
theorem d_144_26 : decode (mC 144) 26 = .ok (.getfield 74, 3) := by decide +kernel
theorem cn_144 : (mN 144).cls = "CordLoft$Sets" := by decide +kernel
theorem d_144_29 : decode (mC 144) 29 = .ok (.if_icmp .ge 47, 3) := by decide +kernel
theorem d_144_32 : decode (mC 144) 32 = .ok (.iload 4, 2) := by decide +kernel
theorem d_144_34 : decode (mC 144) 34 = .ok (.ifCond .eq 42, 3) := by decide +kernel
theorem d_144_37 : decode (mC 144) 37 = .ok (.iload_n 2, 1) := by decide +kernel
theorem d_144_38 : decode (mC 144) 38 = .ok (.iload 5, 2) := by decide +kernel
theorem d_144_40 : decode (mC 144) 40 = .ok (.ishr, 1) := by decide +kernel
theorem d_144_41 : decode (mC 144) 41 = .ok (.iconst 1, 1) := by decide +kernel
theorem d_144_42 : decode (mC 144) 42 = .ok (.iand, 1) := by decide +kernel
theorem d_144_43 : decode (mC 144) 43 = .ok (.ifCond .eq 20, 3) := by decide +kernel
theorem d_144_46 : decode (mC 144) 46 = .ok (.aload_n 1, 1) := by decide +kernel
theorem d_144_47 : decode (mC 144) 47 = .ok (.getfield 77, 3) := by decide +kernel
theorem d_144_50 : decode (mC 144) 50 = .ok (.iload 5, 2) := by decide +kernel
theorem d_144_52 : decode (mC 144) 52 = .ok (.iaload, 1) := by decide +kernel
theorem d_144_53 : decode (mC 144) 53 = .ok (.iload_n 3, 1) := by decide +kernel
theorem d_144_54 : decode (mC 144) 54 = .ok (.iand, 1) := by decide +kernel
theorem d_144_55 : decode (mC 144) 55 = .ok (.invokestatic 52, 3) := by decide +kernel
theorem sk_144_52 : SKc 144 52 92 1 := ⟨⟨List.mem_of_getElem? (i := 958) (by decide +kernel), by decide +kernel⟩, List.mem_of_getElem? (i := 840) (by decide +kernel), mo_92, m0_92⟩
theorem d_144_58 : decode (mC 144) 58 = .ok (.iconst 2, 1) := by decide +kernel
theorem d_144_59 : decode (mC 144) 59 = .ok (.irem, 1) := by decide +kernel
theorem nz_2 : ¬ (2 : Int32) = 0 := by decide +kernel
theorem d_144_60 : decode (mC 144) 60 = .ok (.ifCond .ne 7, 3) := by decide +kernel
theorem d_144_67 : decode (mC 144) 67 = .ok (.iconst 0, 1) := by decide +kernel
theorem d_144_9 : decode (mC 144) 9 = .ok (.iload_n 3, 1) := by decide +kernel
theorem d_144_10 : decode (mC 144) 10 = .ok (.aload_n 1, 1) := by decide +kernel
theorem d_144_11 : decode (mC 144) 11 = .ok (.invokevirtual 71, 3) := by decide +kernel
theorem vk_144_71 : VK 144 71 115 0 4 := ⟨⟨List.mem_of_getElem? (i := 1058) (by decide +kernel), by decide +kernel⟩, List.mem_of_getElem? (i := 935) (by decide +kernel), mo_115, m0_115, _, rfl, List.mem_of_getElem? (i := 936) (by decide +kernel), by decide⟩
theorem d_144_14 : decode (mC 144) 14 = .ok (.if_icmp .ge 85, 3) := by decide +kernel
theorem d_144_17 : decode (mC 144) 17 = .ok (.iconst 1, 1) := by decide +kernel
theorem d_144_18 : decode (mC 144) 18 = .ok (.istore 4, 2) := by decide +kernel
theorem d_144_20 : decode (mC 144) 20 = .ok (.iconst 0, 1) := by decide +kernel
theorem d_144_21 : decode (mC 144) 21 = .ok (.istore 5, 2) := by decide +kernel
theorem d_144_76 : decode (mC 144) 76 = .ok (.iload 4, 2) := by decide +kernel
theorem d_144_78 : decode (mC 144) 78 = .ok (.ifCond .eq 15, 3) := by decide +kernel
theorem d_144_93 : decode (mC 144) 93 = .ok (.iinc 3 1, 3) := by decide +kernel
theorem d_144_96 : decode (mC 144) 96 = .ok (.goto (-87), 3) := by decide +kernel
theorem d_144_81 : decode (mC 144) 81 = .ok (.aload_n 0, 1) := by decide +kernel
theorem d_144_82 : decode (mC 144) 82 = .ok (.getfield 12, 3) := by decide +kernel
theorem d_144_85 : decode (mC 144) 85 = .ok (.iload_n 3, 1) := by decide +kernel
theorem d_144_86 : decode (mC 144) 86 = .ok (.invokestatic 52, 3) := by decide +kernel
theorem d_144_89 : decode (mC 144) 89 = .ok (.iload_n 3, 1) := by decide +kernel
theorem d_144_90 : decode (mC 144) 90 = .ok (.invokevirtual 58, 3) := by decide +kernel
theorem vk_144_58 : VK 144 58 121 2 1 := ⟨⟨List.mem_of_getElem? (i := 959) (by decide +kernel), by decide +kernel⟩, List.mem_of_getElem? (i := 960) (by decide +kernel), mo_121, m0_121, _, rfl, List.mem_of_getElem? (i := 961) (by decide +kernel), by decide⟩
theorem d_144_0 : decode (mC 144) 0 = .ok (.aload_n 0, 1) := by decide +kernel
theorem d_144_1 : decode (mC 144) 1 = .ok (.getfield 12, 3) := by decide +kernel
theorem d_144_4 : decode (mC 144) 4 = .ok (.invokevirtual 49, 3) := by decide +kernel
theorem vk_144_49 : VK 144 49 120 0 1 := ⟨⟨List.mem_of_getElem? (i := 954) (by decide +kernel), by decide +kernel⟩, List.mem_of_getElem? (i := 955) (by decide +kernel), mo_120, m0_120, _, rfl, List.mem_of_getElem? (i := 956) (by decide +kernel), by decide⟩
theorem d_144_7 : decode (mC 144) 7 = .ok (.iconst 1, 1) := by decide +kernel
theorem d_144_8 : decode (mC 144) 8 = .ok (.istore_n 3, 1) := by decide +kernel
theorem d_144_99 : decode (mC 144) 99 = .ok (.aload_n 0, 1) := by decide +kernel
theorem d_144_100 : decode (mC 144) 100 = .ok (.getfield 12, 3) := by decide +kernel
theorem d_144_103 : decode (mC 144) 103 = .ok (.getfield 62, 3) := by decide +kernel
theorem d_144_106 : decode (mC 144) 106 = .ok (.ireturn, 1) := by decide +kernel
theorem mr_144 : mR 144 = some .int := by decide +kernel
theorem d_143_0 : decode (mC 143) 0 = .ok (.aload_n 0, 1) := by decide +kernel
theorem d_143_1 : decode (mC 143) 1 = .ok (.getfield 67, 3) := by decide +kernel
theorem cn_143 : (mN 143).cls = "CordLoft" := by decide +kernel
theorem d_143_4 : decode (mC 143) 4 = .ok (.aload_n 0, 1) := by decide +kernel
theorem d_143_5 : decode (mC 143) 5 = .ok (.getfield 35, 3) := by decide +kernel
theorem d_143_8 : decode (mC 143) 8 = .ok (.aload_n 0, 1) := by decide +kernel
theorem d_143_9 : decode (mC 143) 9 = .ok (.invokevirtual 223, 3) := by decide +kernel
theorem vk_143_223 : VK 143 223 129 0 11 := ⟨⟨List.mem_of_getElem? (i := 992) (by decide +kernel), by decide +kernel⟩, List.mem_of_getElem? (i := 994) (by decide +kernel), mo_129, m0_129, _, rfl, List.mem_of_getElem? (i := 22) (by decide +kernel), by decide⟩
theorem d_143_12 : decode (mC 143) 12 = .ok (.invokevirtual 249, 3) := by decide +kernel
theorem mo_144 : MOK 144 := ⟨List.mem_of_getElem? (i := 1057) (by decide +kernel), by decide +kernel, ⟨by decide +kernel, by decide +kernel⟩, List.mem_of_getElem? (i := 96) (by decide +kernel), by decide +kernel⟩
theorem m0_144 : M0K 144 := ⟨by decide +kernel, by decide +kernel⟩
theorem vk_143_249 : VK 143 249 144 2 6 := ⟨⟨List.mem_of_getElem? (i := 1054) (by decide +kernel), by decide +kernel⟩, List.mem_of_getElem? (i := 1055) (by decide +kernel), mo_144, m0_144, _, rfl, List.mem_of_getElem? (i := 1056) (by decide +kernel), by decide⟩
theorem d_143_15 : decode (mC 143) 15 = .ok (.istore_n 2, 1) := by decide +kernel
theorem ml_143 : mL 143 = 3 := by decide +kernel
theorem d_143_16 : decode (mC 143) 16 = .ok (.iload_n 2, 1) := by decide +kernel
theorem d_143_17 : decode (mC 143) 17 = .ok (.ifCond .ge 7, 3) := by decide +kernel
theorem d_143_24 : decode (mC 143) 24 = .ok (.iload_n 1, 1) := by decide +kernel
theorem d_143_25 : decode (mC 143) 25 = .ok (.iload_n 2, 1) := by decide +kernel
theorem d_143_26 : decode (mC 143) 26 = .ok (.invokestatic 167, 3) := by decide +kernel
theorem sk_143_167 : SKc 143 167 92 1 := ⟨⟨List.mem_of_getElem? (i := 839) (by decide +kernel), by decide +kernel⟩, List.mem_of_getElem? (i := 840) (by decide +kernel), mo_92, m0_92⟩
theorem d_143_29 : decode (mC 143) 29 = .ok (.iload_n 2, 1) := by decide +kernel
theorem d_143_30 : decode (mC 143) 30 = .ok (.invokestatic 132, 3) := by decide +kernel
theorem sk_143_132 : SKc 143 132 84 3 := ⟨⟨List.mem_of_getElem? (i := 808) (by decide +kernel), by decide +kernel⟩, List.mem_of_getElem? (i := 809) (by decide +kernel), mo_84, m0_84⟩
theorem d_143_33 : decode (mC 143) 33 = .ok (.ireturn, 1) := by decide +kernel
theorem mr_143 : mR 143 = some .int := by decide +kernel
theorem d_143_20 : decode (mC 143) 20 = .ok (.iconst (-1), 1) := by decide +kernel
theorem d_143_21 : decode (mC 143) 21 = .ok (.goto 12, 3) := by decide +kernel
theorem d_147_67 : decode (mC 147) 67 = .ok (.aload_n 0, 1) := by decide +kernel
theorem d_147_68 : decode (mC 147) 68 = .ok (.getfield 11, 3) := by decide +kernel
theorem fk_CordLoft_Paths_11 : FK 2 "CordLoft$Paths" 11 3 0 := ⟨⟨_, rfl, by decide, List.mem_of_getElem? (i := 418) (by decide +kernel)⟩, rfl, by decide⟩
theorem cn_147 : (mN 147).cls = "CordLoft$Paths" := by decide +kernel
theorem ft_4_0 : finT 4 0 = some (93, 0) := by decide +kernel
theorem k_93 : kd0 93 = 20 := by decide +kernel
theorem l_93 : ln0 93 = 256 := by decide +kernel
theorem d_147_71 : decode (mC 147) 71 = .ok (.iload_n 3, 1) := by decide +kernel
theorem d_147_72 : decode (mC 147) 72 = .ok (.iaload, 1) := by decide +kernel
theorem d_147_73 : decode (mC 147) 73 = .ok (.aload_n 0, 1) := by decide +kernel
theorem d_147_74 : decode (mC 147) 74 = .ok (.getfield 11, 3) := by decide +kernel
theorem d_147_77 : decode (mC 147) 77 = .ok (.iload_n 1, 1) := by decide +kernel
theorem d_147_78 : decode (mC 147) 78 = .ok (.iaload, 1) := by decide +kernel
theorem d_147_79 : decode (mC 147) 79 = .ok (.iconst 1, 1) := by decide +kernel
theorem d_147_80 : decode (mC 147) 80 = .ok (.iadd, 1) := by decide +kernel
theorem d_147_81 : decode (mC 147) 81 = .ok (.if_icmp .ne 18, 3) := by decide +kernel
theorem d_147_99 : decode (mC 147) 99 = .ok (.return_, 1) := by decide +kernel
theorem mr_147 : mR 147 = none := by decide +kernel
theorem d_147_84 : decode (mC 147) 84 = .ok (.aload_n 0, 1) := by decide +kernel
theorem d_147_85 : decode (mC 147) 85 = .ok (.getfield 26, 3) := by decide +kernel
theorem fk_CordLoft_Paths_26 : FK 2 "CordLoft$Paths" 26 3 5 := ⟨⟨_, rfl, by decide, List.mem_of_getElem? (i := 423) (by decide +kernel)⟩, rfl, by decide⟩
theorem ft_4_5 : finT 4 5 = some (97, 0) := by decide +kernel
theorem k_97 : kd0 97 = 20 := by decide +kernel
theorem l_97 : ln0 97 = 256 := by decide +kernel
theorem d_147_88 : decode (mC 147) 88 = .ok (.iload_n 3, 1) := by decide +kernel
theorem d_147_89 : decode (mC 147) 89 = .ok (.dup2, 1) := by decide +kernel
theorem d_147_90 : decode (mC 147) 90 = .ok (.iaload, 1) := by decide +kernel
theorem d_147_91 : decode (mC 147) 91 = .ok (.aload_n 0, 1) := by decide +kernel
theorem d_147_92 : decode (mC 147) 92 = .ok (.getfield 26, 3) := by decide +kernel
theorem d_147_95 : decode (mC 147) 95 = .ok (.iload_n 1, 1) := by decide +kernel
theorem d_147_96 : decode (mC 147) 96 = .ok (.iaload, 1) := by decide +kernel
theorem d_147_97 : decode (mC 147) 97 = .ok (.iadd, 1) := by decide +kernel
theorem d_147_98 : decode (mC 147) 98 = .ok (.iastore, 1) := by decide +kernel
theorem d_147_0 : decode (mC 147) 0 = .ok (.aload_n 0, 1) := by decide +kernel
theorem d_147_1 : decode (mC 147) 1 = .ok (.getfield 11, 3) := by decide +kernel
theorem d_147_4 : decode (mC 147) 4 = .ok (.iload_n 3, 1) := by decide +kernel
theorem d_147_5 : decode (mC 147) 5 = .ok (.iaload, 1) := by decide +kernel
theorem d_147_6 : decode (mC 147) 6 = .ok (.ifCond .ge 61, 3) := by decide +kernel
theorem d_147_9 : decode (mC 147) 9 = .ok (.aload_n 0, 1) := by decide +kernel
theorem d_147_10 : decode (mC 147) 10 = .ok (.getfield 41, 3) := by decide +kernel
theorem fk_CordLoft_Paths_41 : FK 0 "CordLoft$Paths" 41 3 4 := ⟨⟨_, rfl, by decide, List.mem_of_getElem? (i := 422) (by decide +kernel)⟩, rfl, by decide⟩
theorem d_147_13 : decode (mC 147) 13 = .ok (.sipush 256, 3) := by decide +kernel
theorem d_147_16 : decode (mC 147) 16 = .ok (.if_icmp .ge 51, 3) := by decide +kernel
theorem d_147_19 : decode (mC 147) 19 = .ok (.aload_n 0, 1) := by decide +kernel
theorem d_147_20 : decode (mC 147) 20 = .ok (.getfield 11, 3) := by decide +kernel
theorem d_147_23 : decode (mC 147) 23 = .ok (.iload_n 3, 1) := by decide +kernel
theorem d_147_24 : decode (mC 147) 24 = .ok (.aload_n 0, 1) := by decide +kernel
theorem d_147_25 : decode (mC 147) 25 = .ok (.getfield 11, 3) := by decide +kernel
theorem d_147_28 : decode (mC 147) 28 = .ok (.iload_n 1, 1) := by decide +kernel
theorem d_147_29 : decode (mC 147) 29 = .ok (.iaload, 1) := by decide +kernel
theorem d_147_30 : decode (mC 147) 30 = .ok (.iconst 1, 1) := by decide +kernel
theorem d_147_31 : decode (mC 147) 31 = .ok (.iadd, 1) := by decide +kernel
theorem d_147_32 : decode (mC 147) 32 = .ok (.iastore, 1) := by decide +kernel
theorem d_147_33 : decode (mC 147) 33 = .ok (.aload_n 0, 1) := by decide +kernel
theorem d_147_34 : decode (mC 147) 34 = .ok (.getfield 17, 3) := by decide +kernel
theorem fk_CordLoft_Paths_17 : FK 2 "CordLoft$Paths" 17 3 1 := ⟨⟨_, rfl, by decide, List.mem_of_getElem? (i := 419) (by decide +kernel)⟩, rfl, by decide⟩
theorem ft_4_1 : finT 4 1 = some (94, 0) := by decide +kernel
theorem k_94 : kd0 94 = 20 := by decide +kernel
theorem l_94 : ln0 94 = 256 := by decide +kernel
theorem d_147_37 : decode (mC 147) 37 = .ok (.iload_n 3, 1) := by decide +kernel
theorem d_147_38 : decode (mC 147) 38 = .ok (.iload_n 1, 1) := by decide +kernel
theorem d_147_39 : decode (mC 147) 39 = .ok (.iastore, 1) := by decide +kernel
theorem d_147_40 : decode (mC 147) 40 = .ok (.aload_n 0, 1) := by decide +kernel
theorem d_147_41 : decode (mC 147) 41 = .ok (.getfield 20, 3) := by decide +kernel
theorem fk_CordLoft_Paths_20 : FK 2 "CordLoft$Paths" 20 3 2 := ⟨⟨_, rfl, by decide, List.mem_of_getElem? (i := 420) (by decide +kernel)⟩, rfl, by decide⟩
theorem ft_4_2 : finT 4 2 = some (95, 0) := by decide +kernel
theorem k_95 : kd0 95 = 20 := by decide +kernel
theorem l_95 : ln0 95 = 256 := by decide +kernel
theorem d_147_44 : decode (mC 147) 44 = .ok (.iload_n 3, 1) := by decide +kernel
theorem d_147_45 : decode (mC 147) 45 = .ok (.iload_n 2, 1) := by decide +kernel
theorem d_147_46 : decode (mC 147) 46 = .ok (.iastore, 1) := by decide +kernel
theorem d_147_47 : decode (mC 147) 47 = .ok (.aload_n 0, 1) := by decide +kernel
theorem d_147_48 : decode (mC 147) 48 = .ok (.getfield 23, 3) := by decide +kernel
theorem fk_CordLoft_Paths_23 : FK 2 "CordLoft$Paths" 23 3 3 := ⟨⟨_, rfl, by decide, List.mem_of_getElem? (i := 421) (by decide +kernel)⟩, rfl, by decide⟩
theorem ft_4_3 : finT 4 3 = some (96, 0) := by decide +kernel
theorem k_96 : kd0 96 = 20 := by decide +kernel
theorem l_96 : ln0 96 = 256 := by decide +kernel
theorem d_147_51 : decode (mC 147) 51 = .ok (.aload_n 0, 1) := by decide +kernel
theorem d_147_52 : decode (mC 147) 52 = .ok (.getfield 41, 3) := by decide +kernel
theorem d_147_55 : decode (mC 147) 55 = .ok (.iload_n 3, 1) := by decide +kernel
theorem d_147_56 : decode (mC 147) 56 = .ok (.iastore, 1) := by decide +kernel
theorem d_147_57 : decode (mC 147) 57 = .ok (.aload_n 0, 1) := by decide +kernel
theorem d_147_58 : decode (mC 147) 58 = .ok (.dup, 1) := by decide +kernel
theorem d_147_59 : decode (mC 147) 59 = .ok (.getfield 41, 3) := by decide +kernel
theorem d_147_62 : decode (mC 147) 62 = .ok (.iconst 1, 1) := by decide +kernel
theorem d_147_63 : decode (mC 147) 63 = .ok (.iadd, 1) := by decide +kernel
theorem d_147_64 : decode (mC 147) 64 = .ok (.putfield 41, 3) := by decide +kernel
theorem fp_CordLoft_Paths_41 : FP 0 "CordLoft$Paths" 41 3 4 := ⟨⟨_, rfl, by decide, List.mem_of_getElem? (i := 422) (by decide +kernel), rfl⟩, rfl, by decide, by decide +kernel⟩
theorem ml_147 : mL 147 = 4 := by decide +kernel
theorem d_146_84 : decode (mC 146) 84 = .ok (.iload 4, 2) := by decide +kernel
theorem d_146_86 : decode (mC 146) 86 = .ok (.aload_n 1, 1) := by decide +kernel
theorem d_146_87 : decode (mC 146) 87 = .ok (.getfield 44, 3) := by decide +kernel
theorem fk_CordLoft_Paths_44 : FK 0 "CordLoft$Paths" 44 4 6 := ⟨⟨_, rfl, by decide, List.mem_of_getElem? (i := 246) (by decide +kernel)⟩, rfl, by decide⟩
theorem cn_146 : (mN 146).cls = "CordLoft$Paths" := by decide +kernel
theorem d_146_90 : decode (mC 146) 90 = .ok (.if_icmp .ge 63, 3) := by decide +kernel
theorem d_146_93 : decode (mC 146) 93 = .ok (.aload_n 0, 1) := by decide +kernel
theorem d_146_94 : decode (mC 146) 94 = .ok (.getfield 23, 3) := by decide +kernel
theorem d_146_97 : decode (mC 146) 97 = .ok (.iload_n 3, 1) := by decide +kernel
theorem d_146_98 : decode (mC 146) 98 = .ok (.iaload, 1) := by decide +kernel
theorem d_146_99 : decode (mC 146) 99 = .ok (.aload_n 1, 1) := by decide +kernel
theorem d_146_100 : decode (mC 146) 100 = .ok (.getfield 47, 3) := by decide +kernel
theorem fk_CordLoft_Paths_47 : FK 2 "CordLoft$Paths" 47 4 8 := ⟨⟨_, rfl, by decide, List.mem_of_getElem? (i := 252) (by decide +kernel)⟩, rfl, by decide⟩
theorem d_146_103 : decode (mC 146) 103 = .ok (.iload 4, 2) := by decide +kernel
theorem d_146_105 : decode (mC 146) 105 = .ok (.iaload, 1) := by decide +kernel
theorem d_146_106 : decode (mC 146) 106 = .ok (.ixor, 1) := by decide +kernel
theorem d_146_107 : decode (mC 146) 107 = .ok (.istore 5, 2) := by decide +kernel
theorem ml_146 : mL 146 = 6 := by decide +kernel
theorem d_146_109 : decode (mC 146) 109 = .ok (.aload_n 2, 1) := by decide +kernel
theorem d_146_110 : decode (mC 146) 110 = .ok (.getfield 50, 3) := by decide +kernel
theorem fk_CordLoft_Paths_50 : FK 0 "CordLoft$Paths" 50 8 1 := ⟨⟨_, rfl, by decide, List.mem_of_getElem? (i := 334) (by decide +kernel)⟩, rfl, by decide⟩
theorem d_146_113 : decode (mC 146) 113 = .ok (.iload 4, 2) := by decide +kernel
theorem d_146_115 : decode (mC 146) 115 = .ok (.ishr, 1) := by decide +kernel
theorem d_146_116 : decode (mC 146) 116 = .ok (.iconst 1, 1) := by decide +kernel
theorem d_146_117 : decode (mC 146) 117 = .ok (.iand, 1) := by decide +kernel
theorem d_146_118 : decode (mC 146) 118 = .ok (.ifCond .ne 29, 3) := by decide +kernel
theorem d_146_147 : decode (mC 146) 147 = .ok (.iinc 4 1, 3) := by decide +kernel
theorem d_146_150 : decode (mC 146) 150 = .ok (.goto (-66), 3) := by decide +kernel
theorem d_146_121 : decode (mC 146) 121 = .ok (.iload 5, 2) := by decide +kernel
theorem d_146_123 : decode (mC 146) 123 = .ok (.invokestatic 53, 3) := by decide +kernel
theorem sk_146_53 : SKc 146 53 92 1 := ⟨⟨List.mem_of_getElem? (i := 1067) (by decide +kernel), by decide +kernel⟩, List.mem_of_getElem? (i := 840) (by decide +kernel), mo_92, m0_92⟩
theorem d_146_126 : decode (mC 146) 126 = .ok (.aload_n 1, 1) := by decide +kernel
theorem d_146_127 : decode (mC 146) 127 = .ok (.getfield 59, 3) := by decide +kernel
theorem fk_CordLoft_Paths_59 : FK 0 "CordLoft$Paths" 59 4 14 := ⟨⟨_, rfl, by decide, List.mem_of_getElem? (i := 270) (by decide +kernel)⟩, rfl, by decide⟩
theorem d_146_130 : decode (mC 146) 130 = .ok (.if_icmp .lt 17, 3) := by decide +kernel
theorem d_146_133 : decode (mC 146) 133 = .ok (.aload_n 0, 1) := by decide +kernel
theorem d_146_134 : decode (mC 146) 134 = .ok (.aload_n 0, 1) := by decide +kernel
theorem d_146_135 : decode (mC 146) 135 = .ok (.getfield 23, 3) := by decide +kernel
theorem d_146_138 : decode (mC 146) 138 = .ok (.iload_n 3, 1) := by decide +kernel
theorem d_146_139 : decode (mC 146) 139 = .ok (.iaload, 1) := by decide +kernel
theorem d_146_140 : decode (mC 146) 140 = .ok (.iload 4, 2) := by decide +kernel
theorem d_146_142 : decode (mC 146) 142 = .ok (.iload 5, 2) := by decide +kernel
theorem d_146_144 : decode (mC 146) 144 = .ok (.invokevirtual 62, 3) := by decide +kernel
theorem mo_147 : MOK 147 := ⟨List.mem_of_getElem? (i := 1071) (by decide +kernel), by decide +kernel, ⟨by decide +kernel, by decide +kernel⟩, List.mem_of_getElem? (i := 98) (by decide +kernel), by decide +kernel⟩
theorem m0_147 : M0K 147 := ⟨by decide +kernel, by decide +kernel⟩
theorem vk_146_62 : VK 146 62 147 3 3 := ⟨⟨List.mem_of_getElem? (i := 1068) (by decide +kernel), by decide +kernel⟩, List.mem_of_getElem? (i := 1070) (by decide +kernel), mo_147, m0_147, _, rfl, List.mem_of_getElem? (i := 24) (by decide +kernel), by decide⟩
theorem d_146_66 : decode (mC 146) 66 = .ok (.iload_n 3, 1) := by decide +kernel
theorem d_146_67 : decode (mC 146) 67 = .ok (.aload_n 0, 1) := by decide +kernel
theorem d_146_68 : decode (mC 146) 68 = .ok (.getfield 41, 3) := by decide +kernel
theorem d_146_71 : decode (mC 146) 71 = .ok (.if_icmp .ge 88, 3) := by decide +kernel
theorem d_146_74 : decode (mC 146) 74 = .ok (.iload_n 3, 1) := by decide +kernel
theorem d_146_75 : decode (mC 146) 75 = .ok (.sipush 256, 3) := by decide +kernel
theorem d_146_78 : decode (mC 146) 78 = .ok (.if_icmp .ge 81, 3) := by decide +kernel
theorem d_146_81 : decode (mC 146) 81 = .ok (.iconst 0, 1) := by decide +kernel
theorem d_146_82 : decode (mC 146) 82 = .ok (.istore 4, 2) := by decide +kernel
theorem d_146_153 : decode (mC 146) 153 = .ok (.iinc 3 1, 3) := by decide +kernel
theorem d_146_156 : decode (mC 146) 156 = .ok (.goto (-90), 3) := by decide +kernel
theorem d_146_2 : decode (mC 146) 2 = .ok (.iload_n 3, 1) := by decide +kernel
theorem d_146_3 : decode (mC 146) 3 = .ok (.sipush 256, 3) := by decide +kernel
theorem d_146_6 : decode (mC 146) 6 = .ok (.if_icmp .ge 23, 3) := by decide +kernel
theorem d_146_9 : decode (mC 146) 9 = .ok (.aload_n 0, 1) := by decide +kernel
theorem d_146_10 : decode (mC 146) 10 = .ok (.getfield 11, 3) := by decide +kernel
theorem d_146_13 : decode (mC 146) 13 = .ok (.iload_n 3, 1) := by decide +kernel
theorem d_146_14 : decode (mC 146) 14 = .ok (.iconst (-1), 1) := by decide +kernel
theorem d_146_15 : decode (mC 146) 15 = .ok (.iastore, 1) := by decide +kernel
theorem d_146_16 : decode (mC 146) 16 = .ok (.aload_n 0, 1) := by decide +kernel
theorem d_146_17 : decode (mC 146) 17 = .ok (.getfield 26, 3) := by decide +kernel
theorem d_146_20 : decode (mC 146) 20 = .ok (.iload_n 3, 1) := by decide +kernel
theorem d_146_21 : decode (mC 146) 21 = .ok (.iconst 0, 1) := by decide +kernel
theorem d_146_22 : decode (mC 146) 22 = .ok (.iastore, 1) := by decide +kernel
theorem d_146_23 : decode (mC 146) 23 = .ok (.iinc 3 1, 3) := by decide +kernel
theorem d_146_26 : decode (mC 146) 26 = .ok (.goto (-24), 3) := by decide +kernel
theorem d_146_0 : decode (mC 146) 0 = .ok (.iconst 0, 1) := by decide +kernel
theorem d_146_1 : decode (mC 146) 1 = .ok (.istore_n 3, 1) := by decide +kernel
theorem d_146_29 : decode (mC 146) 29 = .ok (.aload_n 0, 1) := by decide +kernel
theorem d_146_30 : decode (mC 146) 30 = .ok (.getfield 11, 3) := by decide +kernel
