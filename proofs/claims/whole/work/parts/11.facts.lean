theorem d_68_25 : decode (mC 68) 25 = .ok (.aload_n 0, 1) := by decide +kernel
theorem d_68_26 : decode (mC 68) 26 = .ok (.invokevirtual 126, 3) := by decide +kernel
theorem mo_69 : MOK 69 := ⟨List.mem_of_getElem? (i := 752) (by decide +kernel), by decide +kernel, ⟨by decide +kernel, by decide +kernel⟩, List.mem_of_getElem? (i := 91) (by decide +kernel), by decide +kernel⟩
theorem m0_69 : M0K 69 := ⟨by decide +kernel, by decide +kernel⟩
theorem vk_68_126 : VK 68 126 69 0 5 := ⟨⟨List.mem_of_getElem? (i := 749) (by decide +kernel), by decide +kernel⟩, List.mem_of_getElem? (i := 751) (by decide +kernel), mo_69, m0_69, _, rfl, List.mem_of_getElem? (i := 11) (by decide +kernel), by decide⟩
theorem d_68_29 : decode (mC 68) 29 = .ok (.istore_n 3, 1) := by decide +kernel
theorem ml_68 : mL 68 = 4 := by decide +kernel
theorem d_68_30 : decode (mC 68) 30 = .ok (.iload_n 3, 1) := by decide +kernel
theorem d_68_31 : decode (mC 68) 31 = .ok (.ifCond .ge 5, 3) := by decide +kernel
theorem d_68_36 : decode (mC 68) 36 = .ok (.aload_n 0, 1) := by decide +kernel
theorem d_68_37 : decode (mC 68) 37 = .ok (.getfield 15, 3) := by decide +kernel
theorem cn_68 : (mN 68).cls = "CordLoft$Reader" := by decide +kernel
theorem d_68_40 : decode (mC 68) 40 = .ok (.getfield 130, 3) := by decide +kernel
theorem fk_CordLoft_Reader_130 : FK 2 "CordLoft$Reader" 130 4 8 := ⟨⟨_, rfl, by decide, List.mem_of_getElem? (i := 253) (by decide +kernel)⟩, rfl, by decide⟩
theorem d_68_43 : decode (mC 68) 43 = .ok (.iload_n 1, 1) := by decide +kernel
theorem d_68_44 : decode (mC 68) 44 = .ok (.iaload, 1) := by decide +kernel
theorem d_68_45 : decode (mC 68) 45 = .ok (.iload_n 3, 1) := by decide +kernel
theorem d_68_46 : decode (mC 68) 46 = .ok (.ishr, 1) := by decide +kernel
theorem d_68_47 : decode (mC 68) 47 = .ok (.iconst 1, 1) := by decide +kernel
theorem d_68_48 : decode (mC 68) 48 = .ok (.iand, 1) := by decide +kernel
theorem d_68_49 : decode (mC 68) 49 = .ok (.ifCond .eq 9, 3) := by decide +kernel
theorem d_68_58 : decode (mC 68) 58 = .ok (.aload_n 0, 1) := by decide +kernel
theorem d_68_59 : decode (mC 68) 59 = .ok (.getfield 15, 3) := by decide +kernel
theorem d_68_62 : decode (mC 68) 62 = .ok (.getfield 130, 3) := by decide +kernel
theorem d_68_65 : decode (mC 68) 65 = .ok (.iload_n 1, 1) := by decide +kernel
theorem d_68_66 : decode (mC 68) 66 = .ok (.dup2, 1) := by decide +kernel
theorem d_68_67 : decode (mC 68) 67 = .ok (.iaload, 1) := by decide +kernel
theorem d_68_68 : decode (mC 68) 68 = .ok (.iconst 1, 1) := by decide +kernel
theorem d_68_69 : decode (mC 68) 69 = .ok (.iload_n 3, 1) := by decide +kernel
theorem d_68_70 : decode (mC 68) 70 = .ok (.ishl, 1) := by decide +kernel
theorem d_68_71 : decode (mC 68) 71 = .ok (.ior, 1) := by decide +kernel
theorem d_68_72 : decode (mC 68) 72 = .ok (.iastore, 1) := by decide +kernel
theorem d_68_73 : decode (mC 68) 73 = .ok (.aload_n 0, 1) := by decide +kernel
theorem d_68_74 : decode (mC 68) 74 = .ok (.getfield 9, 3) := by decide +kernel
theorem d_68_77 : decode (mC 68) 77 = .ok (.invokevirtual 89, 3) := by decide +kernel
theorem vk_68_89 : VK 68 89 54 0 10 := ⟨⟨List.mem_of_getElem? (i := 716) (by decide +kernel), by decide +kernel⟩, List.mem_of_getElem? (i := 689) (by decide +kernel), mo_54, m0_54, _, rfl, List.mem_of_getElem? (i := 690) (by decide +kernel), by decide⟩
theorem d_68_80 : decode (mC 68) 80 = .ok (.iinc 2 1, 3) := by decide +kernel
theorem d_68_83 : decode (mC 68) 83 = .ok (.goto (-81), 3) := by decide +kernel
theorem d_68_52 : decode (mC 68) 52 = .ok (.aload_n 0, 1) := by decide +kernel
theorem d_68_53 : decode (mC 68) 53 = .ok (.iconst 3, 1) := by decide +kernel
theorem d_68_54 : decode (mC 68) 54 = .ok (.invokevirtual 80, 3) := by decide +kernel
theorem vk_68_80 : VK 68 80 60 1 5 := ⟨⟨List.mem_of_getElem? (i := 712) (by decide +kernel), by decide +kernel⟩, List.mem_of_getElem? (i := 714) (by decide +kernel), mo_60, m0_60, _, rfl, List.mem_of_getElem? (i := 6) (by decide +kernel), by decide⟩
theorem d_68_57 : decode (mC 68) 57 = .ok (.ireturn, 1) := by decide +kernel
theorem mr_68 : mR 68 = some .boolean := by decide +kernel
theorem d_68_34 : decode (mC 68) 34 = .ok (.iconst 0, 1) := by decide +kernel
theorem d_68_35 : decode (mC 68) 35 = .ok (.ireturn, 1) := by decide +kernel
theorem d_68_2 : decode (mC 68) 2 = .ok (.iload_n 2, 1) := by decide +kernel
theorem d_68_3 : decode (mC 68) 3 = .ok (.bipush 8, 2) := by decide +kernel
theorem d_68_5 : decode (mC 68) 5 = .ok (.if_icmp .gt 81, 3) := by decide +kernel
theorem d_68_8 : decode (mC 68) 8 = .ok (.iload_n 2, 1) := by decide +kernel
theorem d_68_9 : decode (mC 68) 9 = .ok (.ifCond .le 16, 3) := by decide +kernel
theorem d_68_12 : decode (mC 68) 12 = .ok (.aload_n 0, 1) := by decide +kernel
theorem d_68_13 : decode (mC 68) 13 = .ok (.getfield 9, 3) := by decide +kernel
theorem d_68_16 : decode (mC 68) 16 = .ok (.getfield 36, 3) := by decide +kernel
theorem d_68_19 : decode (mC 68) 19 = .ok (.iconst 2, 1) := by decide +kernel
theorem d_68_20 : decode (mC 68) 20 = .ok (.if_icmp .eq 5, 3) := by decide +kernel
theorem d_68_23 : decode (mC 68) 23 = .ok (.iconst 1, 1) := by decide +kernel
theorem d_68_24 : decode (mC 68) 24 = .ok (.ireturn, 1) := by decide +kernel
theorem d_68_0 : decode (mC 68) 0 = .ok (.iconst 0, 1) := by decide +kernel
theorem d_68_1 : decode (mC 68) 1 = .ok (.istore_n 2, 1) := by decide +kernel
theorem d_68_86 : decode (mC 68) 86 = .ok (.iconst 1, 1) := by decide +kernel
theorem d_68_87 : decode (mC 68) 87 = .ok (.ireturn, 1) := by decide +kernel
theorem d_64_0 : decode (mC 64) 0 = .ok (.aload_n 0, 1) := by decide +kernel
theorem d_64_1 : decode (mC 64) 1 = .ok (.getfield 15, 3) := by decide +kernel
theorem cn_64 : (mN 64).cls = "CordLoft$Reader" := by decide +kernel
theorem d_64_4 : decode (mC 64) 4 = .ok (.getfield 110, 3) := by decide +kernel
theorem fk_CordLoft_Reader_110 : FK 0 "CordLoft$Reader" 110 4 6 := ⟨⟨_, rfl, by decide, List.mem_of_getElem? (i := 247) (by decide +kernel)⟩, rfl, by decide⟩
theorem d_64_7 : decode (mC 64) 7 = .ok (.bipush 8, 2) := by decide +kernel
theorem d_64_9 : decode (mC 64) 9 = .ok (.if_icmp .lt 9, 3) := by decide +kernel
theorem d_64_18 : decode (mC 64) 18 = .ok (.aload_n 0, 1) := by decide +kernel
theorem d_64_19 : decode (mC 64) 19 = .ok (.getfield 9, 3) := by decide +kernel
theorem d_64_22 : decode (mC 64) 22 = .ok (.invokevirtual 89, 3) := by decide +kernel
theorem vk_64_89 : VK 64 89 54 0 10 := ⟨⟨List.mem_of_getElem? (i := 716) (by decide +kernel), by decide +kernel⟩, List.mem_of_getElem? (i := 689) (by decide +kernel), mo_54, m0_54, _, rfl, List.mem_of_getElem? (i := 690) (by decide +kernel), by decide⟩
theorem d_64_25 : decode (mC 64) 25 = .ok (.aload_n 0, 1) := by decide +kernel
theorem d_64_26 : decode (mC 64) 26 = .ok (.getfield 9, 3) := by decide +kernel
theorem d_64_29 : decode (mC 64) 29 = .ok (.getfield 36, 3) := by decide +kernel
theorem d_64_32 : decode (mC 64) 32 = .ok (.iconst 2, 1) := by decide +kernel
theorem d_64_33 : decode (mC 64) 33 = .ok (.if_icmp .eq 9, 3) := by decide +kernel
theorem d_64_42 : decode (mC 64) 42 = .ok (.aload_n 0, 1) := by decide +kernel
theorem d_64_43 : decode (mC 64) 43 = .ok (.getfield 15, 3) := by decide +kernel
theorem d_64_46 : decode (mC 64) 46 = .ok (.aload_n 0, 1) := by decide +kernel
theorem d_64_47 : decode (mC 64) 47 = .ok (.getfield 9, 3) := by decide +kernel
theorem d_64_50 : decode (mC 64) 50 = .ok (.getfield 92, 3) := by decide +kernel
theorem d_64_53 : decode (mC 64) 53 = .ok (.invokevirtual 113, 3) := by decide +kernel
theorem mo_65 : MOK 65 := ⟨List.mem_of_getElem? (i := 736) (by decide +kernel), by decide +kernel, ⟨by decide +kernel, by decide +kernel⟩, List.mem_of_getElem? (i := 92) (by decide +kernel), by decide +kernel⟩
theorem m0_65 : M0K 65 := ⟨by decide +kernel, by decide +kernel⟩
theorem vk_64_113 : VK 64 113 65 1 4 := ⟨⟨List.mem_of_getElem? (i := 733) (by decide +kernel), by decide +kernel⟩, List.mem_of_getElem? (i := 734) (by decide +kernel), mo_65, m0_65, _, rfl, List.mem_of_getElem? (i := 735) (by decide +kernel), by decide⟩
theorem d_64_56 : decode (mC 64) 56 = .ok (.ifCond .eq 9, 3) := by decide +kernel
theorem d_64_65 : decode (mC 64) 65 = .ok (.aload_n 0, 1) := by decide +kernel
theorem d_64_66 : decode (mC 64) 66 = .ok (.getfield 15, 3) := by decide +kernel
theorem d_64_69 : decode (mC 64) 69 = .ok (.aload_n 0, 1) := by decide +kernel
theorem d_64_70 : decode (mC 64) 70 = .ok (.getfield 9, 3) := by decide +kernel
theorem d_64_73 : decode (mC 64) 73 = .ok (.getfield 92, 3) := by decide +kernel
theorem d_64_76 : decode (mC 64) 76 = .ok (.invokevirtual 117, 3) := by decide +kernel
theorem mo_66 : MOK 66 := ⟨List.mem_of_getElem? (i := 740) (by decide +kernel), by decide +kernel, ⟨by decide +kernel, by decide +kernel⟩, List.mem_of_getElem? (i := 92) (by decide +kernel), by decide +kernel⟩
theorem m0_66 : M0K 66 := ⟨by decide +kernel, by decide +kernel⟩
theorem vk_64_117 : VK 64 117 66 1 4 := ⟨⟨List.mem_of_getElem? (i := 737) (by decide +kernel), by decide +kernel⟩, List.mem_of_getElem? (i := 738) (by decide +kernel), mo_66, m0_66, _, rfl, List.mem_of_getElem? (i := 739) (by decide +kernel), by decide⟩
theorem d_64_79 : decode (mC 64) 79 = .ok (.istore_n 1, 1) := by decide +kernel
theorem ml_64 : mL 64 = 2 := by decide +kernel
theorem d_64_80 : decode (mC 64) 80 = .ok (.aload_n 0, 1) := by decide +kernel
theorem d_64_81 : decode (mC 64) 81 = .ok (.getfield 9, 3) := by decide +kernel
theorem d_64_84 : decode (mC 64) 84 = .ok (.invokevirtual 89, 3) := by decide +kernel
theorem d_64_87 : decode (mC 64) 87 = .ok (.aload_n 0, 1) := by decide +kernel
theorem d_64_88 : decode (mC 64) 88 = .ok (.sipush 135, 3) := by decide +kernel
theorem si_135 : (Int16.ofInt 135).toInt32 = 135 := by decide +kernel
theorem d_64_91 : decode (mC 64) 91 = .ok (.invokevirtual 83, 3) := by decide +kernel
theorem vk_64_83 : VK 64 83 67 1 5 := ⟨⟨List.mem_of_getElem? (i := 741) (by decide +kernel), by decide +kernel⟩, List.mem_of_getElem? (i := 743) (by decide +kernel), mo_67, m0_67, _, rfl, List.mem_of_getElem? (i := 9) (by decide +kernel), by decide⟩
theorem d_64_94 : decode (mC 64) 94 = .ok (.ifCond .eq 11, 3) := by decide +kernel
theorem d_64_105 : decode (mC 64) 105 = .ok (.iconst 0, 1) := by decide +kernel
theorem d_64_106 : decode (mC 64) 106 = .ok (.ireturn, 1) := by decide +kernel
theorem mr_64 : mR 64 = some .boolean := by decide +kernel
theorem d_64_97 : decode (mC 64) 97 = .ok (.aload_n 0, 1) := by decide +kernel
theorem d_64_98 : decode (mC 64) 98 = .ok (.iload_n 1, 1) := by decide +kernel
theorem d_64_99 : decode (mC 64) 99 = .ok (.invokevirtual 120, 3) := by decide +kernel
theorem mo_68 : MOK 68 := ⟨List.mem_of_getElem? (i := 748) (by decide +kernel), by decide +kernel, ⟨by decide +kernel, by decide +kernel⟩, List.mem_of_getElem? (i := 91) (by decide +kernel), by decide +kernel⟩
theorem m0_68 : M0K 68 := ⟨by decide +kernel, by decide +kernel⟩
theorem vk_64_120 : VK 64 120 68 1 5 := ⟨⟨List.mem_of_getElem? (i := 745) (by decide +kernel), by decide +kernel⟩, List.mem_of_getElem? (i := 747) (by decide +kernel), mo_68, m0_68, _, rfl, List.mem_of_getElem? (i := 10) (by decide +kernel), by decide⟩
theorem d_64_102 : decode (mC 64) 102 = .ok (.ifCond .ne 5, 3) := by decide +kernel
theorem d_64_107 : decode (mC 64) 107 = .ok (.aload_n 0, 1) := by decide +kernel
theorem d_64_108 : decode (mC 64) 108 = .ok (.getfield 9, 3) := by decide +kernel
theorem d_64_111 : decode (mC 64) 111 = .ok (.getfield 36, 3) := by decide +kernel
theorem d_64_114 : decode (mC 64) 114 = .ok (.sipush 136, 3) := by decide +kernel
theorem si_136 : (Int16.ofInt 136).toInt32 = 136 := by decide +kernel
theorem d_64_117 : decode (mC 64) 117 = .ok (.if_icmp .ne 34, 3) := by decide +kernel
theorem d_64_151 : decode (mC 64) 151 = .ok (.iconst 1, 1) := by decide +kernel
theorem d_64_152 : decode (mC 64) 152 = .ok (.ireturn, 1) := by decide +kernel
theorem d_64_120 : decode (mC 64) 120 = .ok (.aload_n 0, 1) := by decide +kernel
theorem d_64_121 : decode (mC 64) 121 = .ok (.getfield 9, 3) := by decide +kernel
theorem d_64_124 : decode (mC 64) 124 = .ok (.invokevirtual 89, 3) := by decide +kernel
theorem d_64_127 : decode (mC 64) 127 = .ok (.aload_n 0, 1) := by decide +kernel
theorem d_64_128 : decode (mC 64) 128 = .ok (.bipush 20, 2) := by decide +kernel
theorem bi_20 : (Int8.ofInt 20).toInt32 = 20 := by decide +kernel
theorem d_64_130 : decode (mC 64) 130 = .ok (.invokevirtual 64, 3) := by decide +kernel
theorem vk_64_64 : VK 64 64 63 1 5 := ⟨⟨List.mem_of_getElem? (i := 725) (by decide +kernel), by decide +kernel⟩, List.mem_of_getElem? (i := 727) (by decide +kernel), mo_63, m0_63, _, rfl, List.mem_of_getElem? (i := 7) (by decide +kernel), by decide⟩
theorem d_64_133 : decode (mC 64) 133 = .ok (.ifCond .ne 5, 3) := by decide +kernel
theorem d_64_138 : decode (mC 64) 138 = .ok (.aload_n 0, 1) := by decide +kernel
theorem d_64_139 : decode (mC 64) 139 = .ok (.getfield 15, 3) := by decide +kernel
theorem d_64_142 : decode (mC 64) 142 = .ok (.getfield 123, 3) := by decide +kernel
theorem fk_CordLoft_Reader_123 : FK 2 "CordLoft$Reader" 123 4 9 := ⟨⟨_, rfl, by decide, List.mem_of_getElem? (i := 257) (by decide +kernel)⟩, rfl, by decide⟩
theorem d_64_145 : decode (mC 64) 145 = .ok (.iload_n 1, 1) := by decide +kernel
theorem d_64_146 : decode (mC 64) 146 = .ok (.aload_n 0, 1) := by decide +kernel
theorem d_64_147 : decode (mC 64) 147 = .ok (.getfield 68, 3) := by decide +kernel
theorem d_64_150 : decode (mC 64) 150 = .ok (.iastore, 1) := by decide +kernel
theorem d_64_136 : decode (mC 64) 136 = .ok (.iconst 0, 1) := by decide +kernel
theorem d_64_137 : decode (mC 64) 137 = .ok (.ireturn, 1) := by decide +kernel
theorem d_64_59 : decode (mC 64) 59 = .ok (.aload_n 0, 1) := by decide +kernel
theorem d_64_60 : decode (mC 64) 60 = .ok (.iconst 3, 1) := by decide +kernel
theorem d_64_61 : decode (mC 64) 61 = .ok (.invokevirtual 80, 3) := by decide +kernel
theorem vk_64_80 : VK 64 80 60 1 5 := ⟨⟨List.mem_of_getElem? (i := 712) (by decide +kernel), by decide +kernel⟩, List.mem_of_getElem? (i := 714) (by decide +kernel), mo_60, m0_60, _, rfl, List.mem_of_getElem? (i := 6) (by decide +kernel), by decide⟩
theorem d_64_64 : decode (mC 64) 64 = .ok (.ireturn, 1) := by decide +kernel
theorem d_64_36 : decode (mC 64) 36 = .ok (.aload_n 0, 1) := by decide +kernel
theorem d_64_37 : decode (mC 64) 37 = .ok (.iconst 2, 1) := by decide +kernel
theorem d_64_38 : decode (mC 64) 38 = .ok (.invokevirtual 80, 3) := by decide +kernel
theorem d_64_41 : decode (mC 64) 41 = .ok (.ireturn, 1) := by decide +kernel
theorem d_64_12 : decode (mC 64) 12 = .ok (.aload_n 0, 1) := by decide +kernel
theorem d_64_13 : decode (mC 64) 13 = .ok (.iconst 2, 1) := by decide +kernel
theorem d_64_14 : decode (mC 64) 14 = .ok (.invokevirtual 80, 3) := by decide +kernel
theorem d_64_17 : decode (mC 64) 17 = .ok (.ireturn, 1) := by decide +kernel
theorem d_70_57 : decode (mC 70) 57 = .ok (.aload_n 0, 1) := by decide +kernel
theorem d_70_58 : decode (mC 70) 58 = .ok (.iconst 3, 1) := by decide +kernel
theorem d_70_59 : decode (mC 70) 59 = .ok (.invokevirtual 80, 3) := by decide +kernel
theorem vk_70_80 : VK 70 80 60 1 5 := ⟨⟨List.mem_of_getElem? (i := 712) (by decide +kernel), by decide +kernel⟩, List.mem_of_getElem? (i := 714) (by decide +kernel), mo_60, m0_60, _, rfl, List.mem_of_getElem? (i := 6) (by decide +kernel), by decide⟩
theorem d_70_62 : decode (mC 70) 62 = .ok (.ireturn, 1) := by decide +kernel
theorem mr_70 : mR 70 = some .boolean := by decide +kernel
theorem d_70_0 : decode (mC 70) 0 = .ok (.aload_n 0, 1) := by decide +kernel
theorem d_70_1 : decode (mC 70) 1 = .ok (.getfield 9, 3) := by decide +kernel
theorem cn_70 : (mN 70).cls = "CordLoft$Reader" := by decide +kernel
theorem d_70_4 : decode (mC 70) 4 = .ok (.invokevirtual 89, 3) := by decide +kernel
theorem vk_70_89 : VK 70 89 54 0 10 := ⟨⟨List.mem_of_getElem? (i := 716) (by decide +kernel), by decide +kernel⟩, List.mem_of_getElem? (i := 689) (by decide +kernel), mo_54, m0_54, _, rfl, List.mem_of_getElem? (i := 690) (by decide +kernel), by decide⟩
theorem d_70_7 : decode (mC 70) 7 = .ok (.aload_n 0, 1) := by decide +kernel
theorem d_70_8 : decode (mC 70) 8 = .ok (.invokevirtual 126, 3) := by decide +kernel
theorem vk_70_126 : VK 70 126 69 0 5 := ⟨⟨List.mem_of_getElem? (i := 749) (by decide +kernel), by decide +kernel⟩, List.mem_of_getElem? (i := 751) (by decide +kernel), mo_69, m0_69, _, rfl, List.mem_of_getElem? (i := 11) (by decide +kernel), by decide⟩
theorem d_70_11 : decode (mC 70) 11 = .ok (.istore_n 1, 1) := by decide +kernel
theorem ml_70 : mL 70 = 3 := by decide +kernel
theorem d_70_12 : decode (mC 70) 12 = .ok (.iload_n 1, 1) := by decide +kernel
theorem d_70_13 : decode (mC 70) 13 = .ok (.ifCond .ge 5, 3) := by decide +kernel
theorem d_70_18 : decode (mC 70) 18 = .ok (.aload_n 0, 1) := by decide +kernel
theorem d_70_19 : decode (mC 70) 19 = .ok (.getfield 9, 3) := by decide +kernel
theorem d_70_22 : decode (mC 70) 22 = .ok (.invokevirtual 89, 3) := by decide +kernel
theorem d_70_25 : decode (mC 70) 25 = .ok (.aload_n 0, 1) := by decide +kernel
theorem d_70_26 : decode (mC 70) 26 = .ok (.invokevirtual 126, 3) := by decide +kernel
theorem d_70_29 : decode (mC 70) 29 = .ok (.istore_n 2, 1) := by decide +kernel
theorem d_70_30 : decode (mC 70) 30 = .ok (.iload_n 2, 1) := by decide +kernel
theorem d_70_31 : decode (mC 70) 31 = .ok (.ifCond .ge 5, 3) := by decide +kernel
theorem d_70_36 : decode (mC 70) 36 = .ok (.iload_n 1, 1) := by decide +kernel
theorem d_70_37 : decode (mC 70) 37 = .ok (.iload_n 2, 1) := by decide +kernel
theorem d_70_38 : decode (mC 70) 38 = .ok (.if_icmp .eq 19, 3) := by decide +kernel
theorem d_70_41 : decode (mC 70) 41 = .ok (.aload_n 0, 1) := by decide +kernel
theorem d_70_42 : decode (mC 70) 42 = .ok (.getfield 15, 3) := by decide +kernel
theorem d_70_45 : decode (mC 70) 45 = .ok (.getfield 133, 3) := by decide +kernel
theorem fk_CordLoft_Reader_133 : FK 2 "CordLoft$Reader" 133 4 5 := ⟨⟨_, rfl, by decide, List.mem_of_getElem? (i := 244) (by decide +kernel)⟩, rfl, by decide⟩
theorem d_70_48 : decode (mC 70) 48 = .ok (.iload_n 1, 1) := by decide +kernel
theorem d_70_49 : decode (mC 70) 49 = .ok (.iaload, 1) := by decide +kernel
theorem d_70_50 : decode (mC 70) 50 = .ok (.iload_n 2, 1) := by decide +kernel
theorem d_70_51 : decode (mC 70) 51 = .ok (.ishr, 1) := by decide +kernel
theorem d_70_52 : decode (mC 70) 52 = .ok (.iconst 1, 1) := by decide +kernel
theorem d_70_53 : decode (mC 70) 53 = .ok (.iand, 1) := by decide +kernel
theorem d_70_54 : decode (mC 70) 54 = .ok (.ifCond .eq 9, 3) := by decide +kernel
theorem d_70_63 : decode (mC 70) 63 = .ok (.aload_n 0, 1) := by decide +kernel
theorem d_70_64 : decode (mC 70) 64 = .ok (.getfield 15, 3) := by decide +kernel
theorem d_70_67 : decode (mC 70) 67 = .ok (.getfield 133, 3) := by decide +kernel
theorem d_70_70 : decode (mC 70) 70 = .ok (.iload_n 1, 1) := by decide +kernel
theorem d_70_71 : decode (mC 70) 71 = .ok (.dup2, 1) := by decide +kernel
theorem d_70_72 : decode (mC 70) 72 = .ok (.iaload, 1) := by decide +kernel
theorem d_70_73 : decode (mC 70) 73 = .ok (.iconst 1, 1) := by decide +kernel
theorem d_70_74 : decode (mC 70) 74 = .ok (.iload_n 2, 1) := by decide +kernel
theorem d_70_75 : decode (mC 70) 75 = .ok (.ishl, 1) := by decide +kernel
theorem d_70_76 : decode (mC 70) 76 = .ok (.ior, 1) := by decide +kernel
theorem d_70_77 : decode (mC 70) 77 = .ok (.iastore, 1) := by decide +kernel
theorem d_70_78 : decode (mC 70) 78 = .ok (.aload_n 0, 1) := by decide +kernel
theorem d_70_79 : decode (mC 70) 79 = .ok (.getfield 15, 3) := by decide +kernel
theorem d_70_82 : decode (mC 70) 82 = .ok (.getfield 133, 3) := by decide +kernel
theorem d_70_85 : decode (mC 70) 85 = .ok (.iload_n 2, 1) := by decide +kernel
theorem d_70_86 : decode (mC 70) 86 = .ok (.dup2, 1) := by decide +kernel
theorem d_70_87 : decode (mC 70) 87 = .ok (.iaload, 1) := by decide +kernel
theorem d_70_88 : decode (mC 70) 88 = .ok (.iconst 1, 1) := by decide +kernel
theorem d_70_89 : decode (mC 70) 89 = .ok (.iload_n 1, 1) := by decide +kernel
theorem d_70_90 : decode (mC 70) 90 = .ok (.ishl, 1) := by decide +kernel
theorem d_70_91 : decode (mC 70) 91 = .ok (.ior, 1) := by decide +kernel
theorem d_70_92 : decode (mC 70) 92 = .ok (.iastore, 1) := by decide +kernel
theorem d_70_93 : decode (mC 70) 93 = .ok (.aload_n 0, 1) := by decide +kernel
theorem d_70_94 : decode (mC 70) 94 = .ok (.getfield 9, 3) := by decide +kernel
theorem d_70_97 : decode (mC 70) 97 = .ok (.invokevirtual 89, 3) := by decide +kernel
theorem d_70_100 : decode (mC 70) 100 = .ok (.iconst 1, 1) := by decide +kernel
theorem d_70_101 : decode (mC 70) 101 = .ok (.ireturn, 1) := by decide +kernel
theorem d_70_34 : decode (mC 70) 34 = .ok (.iconst 0, 1) := by decide +kernel
theorem d_70_35 : decode (mC 70) 35 = .ok (.ireturn, 1) := by decide +kernel
theorem d_70_16 : decode (mC 70) 16 = .ok (.iconst 0, 1) := by decide +kernel
theorem d_70_17 : decode (mC 70) 17 = .ok (.ireturn, 1) := by decide +kernel
theorem d_71_0 : decode (mC 71) 0 = .ok (.iconst 1, 1) := by decide +kernel
theorem d_71_1 : decode (mC 71) 1 = .ok (.aload_n 0, 1) := by decide +kernel
theorem d_71_2 : decode (mC 71) 2 = .ok (.getfield 9, 3) := by decide +kernel
theorem cn_71 : (mN 71).cls = "CordLoft$Reader" := by decide +kernel
theorem d_71_5 : decode (mC 71) 5 = .ok (.getfield 36, 3) := by decide +kernel
theorem d_71_8 : decode (mC 71) 8 = .ok (.sipush 128, 3) := by decide +kernel
theorem d_71_11 : decode (mC 71) 11 = .ok (.isub, 1) := by decide +kernel
theorem d_71_12 : decode (mC 71) 12 = .ok (.ishl, 1) := by decide +kernel
theorem d_71_13 : decode (mC 71) 13 = .ok (.istore_n 1, 1) := by decide +kernel
theorem ml_71 : mL 71 = 2 := by decide +kernel
theorem d_71_14 : decode (mC 71) 14 = .ok (.aload_n 0, 1) := by decide +kernel
theorem d_71_15 : decode (mC 71) 15 = .ok (.getfield 24, 3) := by decide +kernel
theorem fk_CordLoft_Reader_24 : FK 0 "CordLoft$Reader" 24 5 2 := ⟨⟨_, rfl, by decide, List.mem_of_getElem? (i := 178) (by decide +kernel)⟩, rfl, by decide⟩
theorem d_71_18 : decode (mC 71) 18 = .ok (.iload_n 1, 1) := by decide +kernel
theorem d_71_19 : decode (mC 71) 19 = .ok (.iand, 1) := by decide +kernel
theorem d_71_20 : decode (mC 71) 20 = .ok (.ifCond .eq 9, 3) := by decide +kernel
theorem d_71_29 : decode (mC 71) 29 = .ok (.aload_n 0, 1) := by decide +kernel
theorem d_71_30 : decode (mC 71) 30 = .ok (.dup, 1) := by decide +kernel
theorem d_71_31 : decode (mC 71) 31 = .ok (.getfield 24, 3) := by decide +kernel
theorem d_71_34 : decode (mC 71) 34 = .ok (.iload_n 1, 1) := by decide +kernel
theorem d_71_35 : decode (mC 71) 35 = .ok (.ior, 1) := by decide +kernel
theorem d_71_36 : decode (mC 71) 36 = .ok (.putfield 24, 3) := by decide +kernel
theorem fp_CordLoft_Reader_24 : FP 0 "CordLoft$Reader" 24 5 2 := ⟨⟨_, rfl, by decide, List.mem_of_getElem? (i := 178) (by decide +kernel), rfl⟩, rfl, by decide, by decide +kernel⟩
theorem d_71_39 : decode (mC 71) 39 = .ok (.aload_n 0, 1) := by decide +kernel
theorem d_71_40 : decode (mC 71) 40 = .ok (.getfield 9, 3) := by decide +kernel
theorem d_71_43 : decode (mC 71) 43 = .ok (.invokevirtual 89, 3) := by decide +kernel
theorem vk_71_89 : VK 71 89 54 0 10 := ⟨⟨List.mem_of_getElem? (i := 716) (by decide +kernel), by decide +kernel⟩, List.mem_of_getElem? (i := 689) (by decide +kernel), mo_54, m0_54, _, rfl, List.mem_of_getElem? (i := 690) (by decide +kernel), by decide⟩
theorem d_71_46 : decode (mC 71) 46 = .ok (.iconst 1, 1) := by decide +kernel
theorem d_71_47 : decode (mC 71) 47 = .ok (.ireturn, 1) := by decide +kernel
theorem mr_71 : mR 71 = some .boolean := by decide +kernel
theorem d_71_23 : decode (mC 71) 23 = .ok (.aload_n 0, 1) := by decide +kernel
theorem d_71_24 : decode (mC 71) 24 = .ok (.iconst 2, 1) := by decide +kernel
theorem d_71_25 : decode (mC 71) 25 = .ok (.invokevirtual 80, 3) := by decide +kernel
theorem vk_71_80 : VK 71 80 60 1 5 := ⟨⟨List.mem_of_getElem? (i := 712) (by decide +kernel), by decide +kernel⟩, List.mem_of_getElem? (i := 714) (by decide +kernel), mo_60, m0_60, _, rfl, List.mem_of_getElem? (i := 6) (by decide +kernel), by decide⟩
theorem d_71_28 : decode (mC 71) 28 = .ok (.ireturn, 1) := by decide +kernel
theorem d_58_212 : decode (mC 58) 212 = .ok (.iload_n 1, 1) := by decide +kernel
theorem d_58_213 : decode (mC 58) 213 = .ok (.ifCond .eq 16, 3) := by decide +kernel
theorem d_58_229 : decode (mC 58) 229 = .ok (.iconst 0, 1) := by decide +kernel
theorem d_58_230 : decode (mC 58) 230 = .ok (.ireturn, 1) := by decide +kernel
theorem mr_58 : mR 58 = some .boolean := by decide +kernel
theorem d_58_216 : decode (mC 58) 216 = .ok (.aload_n 0, 1) := by decide +kernel
theorem d_58_217 : decode (mC 58) 217 = .ok (.bipush 59, 2) := by decide +kernel
theorem bi_59 : (Int8.ofInt 59).toInt32 = 59 := by decide +kernel
theorem d_58_219 : decode (mC 58) 219 = .ok (.invokevirtual 83, 3) := by decide +kernel
theorem vk_58_83 : VK 58 83 67 1 5 := ⟨⟨List.mem_of_getElem? (i := 741) (by decide +kernel), by decide +kernel⟩, List.mem_of_getElem? (i := 743) (by decide +kernel), mo_67, m0_67, _, rfl, List.mem_of_getElem? (i := 9) (by decide +kernel), by decide⟩
theorem d_58_222 : decode (mC 58) 222 = .ok (.ifCond .eq 7, 3) := by decide +kernel
theorem d_58_225 : decode (mC 58) 225 = .ok (.iconst 1, 1) := by decide +kernel
theorem d_58_226 : decode (mC 58) 226 = .ok (.goto 4, 3) := by decide +kernel
theorem d_58_191 : decode (mC 58) 191 = .ok (.istore_n 1, 1) := by decide +kernel
theorem ml_58 : mL 58 = 2 := by decide +kernel
theorem d_58_192 : decode (mC 58) 192 = .ok (.aload_n 0, 1) := by decide +kernel
theorem d_58_193 : decode (mC 58) 193 = .ok (.getfield 15, 3) := by decide +kernel
theorem cn_58 : (mN 58).cls = "CordLoft$Reader" := by decide +kernel
theorem d_58_196 : decode (mC 58) 196 = .ok (.aload_n 0, 1) := by decide +kernel
theorem d_58_197 : decode (mC 58) 197 = .ok (.getfield 68, 3) := by decide +kernel
theorem d_58_200 : decode (mC 58) 200 = .ok (.putfield 77, 3) := by decide +kernel
theorem fp_CordLoft_Reader_77 : FP 0 "CordLoft$Reader" 77 4 16 := ⟨⟨_, rfl, by decide, List.mem_of_getElem? (i := 278) (by decide +kernel), rfl⟩, rfl, by decide, by decide +kernel⟩
theorem d_58_203 : decode (mC 58) 203 = .ok (.goto 9, 3) := by decide +kernel
theorem d_58_190 : decode (mC 58) 190 = .ok (.iconst 0, 1) := by decide +kernel
theorem d_58_154 : decode (mC 58) 154 = .ok (.istore_n 1, 1) := by decide +kernel
theorem d_58_155 : decode (mC 58) 155 = .ok (.aload_n 0, 1) := by decide +kernel
theorem d_58_156 : decode (mC 58) 156 = .ok (.getfield 15, 3) := by decide +kernel
theorem d_58_159 : decode (mC 58) 159 = .ok (.aload_n 0, 1) := by decide +kernel
theorem d_58_160 : decode (mC 58) 160 = .ok (.getfield 68, 3) := by decide +kernel
theorem d_58_163 : decode (mC 58) 163 = .ok (.putfield 74, 3) := by decide +kernel
theorem fp_CordLoft_Reader_74 : FP 0 "CordLoft$Reader" 74 4 15 := ⟨⟨_, rfl, by decide, List.mem_of_getElem? (i := 273) (by decide +kernel), rfl⟩, rfl, by decide, by decide +kernel⟩
theorem d_58_166 : decode (mC 58) 166 = .ok (.goto 46, 3) := by decide +kernel
theorem d_58_153 : decode (mC 58) 153 = .ok (.iconst 0, 1) := by decide +kernel
theorem d_58_118 : decode (mC 58) 118 = .ok (.istore_n 1, 1) := by decide +kernel
theorem d_58_119 : decode (mC 58) 119 = .ok (.aload_n 0, 1) := by decide +kernel
theorem d_58_120 : decode (mC 58) 120 = .ok (.getfield 15, 3) := by decide +kernel
theorem d_58_123 : decode (mC 58) 123 = .ok (.aload_n 0, 1) := by decide +kernel
theorem d_58_124 : decode (mC 58) 124 = .ok (.getfield 68, 3) := by decide +kernel
theorem d_58_127 : decode (mC 58) 127 = .ok (.putfield 71, 3) := by decide +kernel
theorem fp_CordLoft_Reader_71 : FP 0 "CordLoft$Reader" 71 4 14 := ⟨⟨_, rfl, by decide, List.mem_of_getElem? (i := 269) (by decide +kernel), rfl⟩, rfl, by decide, by decide +kernel⟩
theorem d_58_130 : decode (mC 58) 130 = .ok (.goto 82, 3) := by decide +kernel
theorem d_58_117 : decode (mC 58) 117 = .ok (.iconst 0, 1) := by decide +kernel
theorem d_58_93 : decode (mC 58) 93 = .ok (.istore_n 1, 1) := by decide +kernel
theorem d_58_94 : decode (mC 58) 94 = .ok (.goto 118, 3) := by decide +kernel
theorem d_58_92 : decode (mC 58) 92 = .ok (.iconst 0, 1) := by decide +kernel
theorem d_58_0 : decode (mC 58) 0 = .ok (.aload_n 0, 1) := by decide +kernel
theorem d_58_1 : decode (mC 58) 1 = .ok (.getfield 9, 3) := by decide +kernel
theorem d_58_4 : decode (mC 58) 4 = .ok (.getfield 36, 3) := by decide +kernel
theorem d_58_7 : decode (mC 58) 7 = .ok (.tableswitch 199 128 134 #[41, 49, 57, 65, 90, 126, 162], 41) := by decide +kernel
theorem d_58_48 : decode (mC 58) 48 = .ok (.aload_n 0, 1) := by decide +kernel
theorem d_58_49 : decode (mC 58) 49 = .ok (.invokevirtual 48, 3) := by decide +kernel
theorem mo_59 : MOK 59 := ⟨List.mem_of_getElem? (i := 711) (by decide +kernel), by decide +kernel, ⟨by decide +kernel, by decide +kernel⟩, List.mem_of_getElem? (i := 91) (by decide +kernel), by decide +kernel⟩
theorem m0_59 : M0K 59 := ⟨by decide +kernel, by decide +kernel⟩
theorem vk_58_48 : VK 58 48 59 0 5 := ⟨⟨List.mem_of_getElem? (i := 708) (by decide +kernel), by decide +kernel⟩, List.mem_of_getElem? (i := 710) (by decide +kernel), mo_59, m0_59, _, rfl, List.mem_of_getElem? (i := 5) (by decide +kernel), by decide⟩
theorem d_58_52 : decode (mC 58) 52 = .ok (.istore_n 1, 1) := by decide +kernel
theorem d_58_53 : decode (mC 58) 53 = .ok (.goto 159, 3) := by decide +kernel
theorem d_58_56 : decode (mC 58) 56 = .ok (.aload_n 0, 1) := by decide +kernel
theorem d_58_57 : decode (mC 58) 57 = .ok (.invokevirtual 51, 3) := by decide +kernel
theorem mo_64 : MOK 64 := ⟨List.mem_of_getElem? (i := 732) (by decide +kernel), by decide +kernel, ⟨by decide +kernel, by decide +kernel⟩, List.mem_of_getElem? (i := 91) (by decide +kernel), by decide +kernel⟩
theorem m0_64 : M0K 64 := ⟨by decide +kernel, by decide +kernel⟩
theorem vk_58_51 : VK 58 51 64 0 5 := ⟨⟨List.mem_of_getElem? (i := 729) (by decide +kernel), by decide +kernel⟩, List.mem_of_getElem? (i := 731) (by decide +kernel), mo_64, m0_64, _, rfl, List.mem_of_getElem? (i := 8) (by decide +kernel), by decide⟩
theorem d_58_60 : decode (mC 58) 60 = .ok (.istore_n 1, 1) := by decide +kernel
theorem d_58_61 : decode (mC 58) 61 = .ok (.goto 151, 3) := by decide +kernel
theorem d_58_64 : decode (mC 58) 64 = .ok (.aload_n 0, 1) := by decide +kernel
theorem d_58_65 : decode (mC 58) 65 = .ok (.invokevirtual 54, 3) := by decide +kernel
theorem mo_70 : MOK 70 := ⟨List.mem_of_getElem? (i := 756) (by decide +kernel), by decide +kernel, ⟨by decide +kernel, by decide +kernel⟩, List.mem_of_getElem? (i := 91) (by decide +kernel), by decide +kernel⟩
theorem m0_70 : M0K 70 := ⟨by decide +kernel, by decide +kernel⟩
theorem vk_58_54 : VK 58 54 70 0 5 := ⟨⟨List.mem_of_getElem? (i := 753) (by decide +kernel), by decide +kernel⟩, List.mem_of_getElem? (i := 755) (by decide +kernel), mo_70, m0_70, _, rfl, List.mem_of_getElem? (i := 12) (by decide +kernel), by decide⟩
theorem d_58_68 : decode (mC 58) 68 = .ok (.istore_n 1, 1) := by decide +kernel
theorem d_58_69 : decode (mC 58) 69 = .ok (.goto 143, 3) := by decide +kernel
theorem d_58_72 : decode (mC 58) 72 = .ok (.aload_n 0, 1) := by decide +kernel
theorem d_58_73 : decode (mC 58) 73 = .ok (.invokevirtual 57, 3) := by decide +kernel
theorem mo_71 : MOK 71 := ⟨List.mem_of_getElem? (i := 760) (by decide +kernel), by decide +kernel, ⟨by decide +kernel, by decide +kernel⟩, List.mem_of_getElem? (i := 91) (by decide +kernel), by decide +kernel⟩
theorem m0_71 : M0K 71 := ⟨by decide +kernel, by decide +kernel⟩
theorem vk_58_57 : VK 58 57 71 0 5 := ⟨⟨List.mem_of_getElem? (i := 757) (by decide +kernel), by decide +kernel⟩, List.mem_of_getElem? (i := 759) (by decide +kernel), mo_71, m0_71, _, rfl, List.mem_of_getElem? (i := 13) (by decide +kernel), by decide⟩
theorem d_58_76 : decode (mC 58) 76 = .ok (.ifCond .eq 16, 3) := by decide +kernel
theorem d_58_79 : decode (mC 58) 79 = .ok (.aload_n 0, 1) := by decide +kernel
theorem d_58_80 : decode (mC 58) 80 = .ok (.iconst 0, 1) := by decide +kernel
theorem d_58_81 : decode (mC 58) 81 = .ok (.iconst 0, 1) := by decide +kernel
theorem d_58_82 : decode (mC 58) 82 = .ok (.invokevirtual 60, 3) := by decide +kernel
theorem vk_58_60 : VK 58 60 72 2 5 := ⟨⟨List.mem_of_getElem? (i := 761) (by decide +kernel), by decide +kernel⟩, List.mem_of_getElem? (i := 763) (by decide +kernel), mo_72, m0_72, _, rfl, List.mem_of_getElem? (i := 14) (by decide +kernel), by decide⟩
theorem d_58_85 : decode (mC 58) 85 = .ok (.ifCond .eq 7, 3) := by decide +kernel
theorem d_58_88 : decode (mC 58) 88 = .ok (.iconst 1, 1) := by decide +kernel
theorem d_58_89 : decode (mC 58) 89 = .ok (.goto 4, 3) := by decide +kernel
theorem d_58_97 : decode (mC 58) 97 = .ok (.aload_n 0, 1) := by decide +kernel
theorem d_58_98 : decode (mC 58) 98 = .ok (.invokevirtual 57, 3) := by decide +kernel
theorem d_58_101 : decode (mC 58) 101 = .ok (.ifCond .eq 16, 3) := by decide +kernel
theorem d_58_104 : decode (mC 58) 104 = .ok (.aload_n 0, 1) := by decide +kernel
theorem d_58_105 : decode (mC 58) 105 = .ok (.bipush 8, 2) := by decide +kernel
theorem d_58_107 : decode (mC 58) 107 = .ok (.invokevirtual 64, 3) := by decide +kernel
theorem vk_58_64 : VK 58 64 63 1 5 := ⟨⟨List.mem_of_getElem? (i := 725) (by decide +kernel), by decide +kernel⟩, List.mem_of_getElem? (i := 727) (by decide +kernel), mo_63, m0_63, _, rfl, List.mem_of_getElem? (i := 7) (by decide +kernel), by decide⟩
theorem d_58_110 : decode (mC 58) 110 = .ok (.ifCond .eq 7, 3) := by decide +kernel
theorem d_58_113 : decode (mC 58) 113 = .ok (.iconst 1, 1) := by decide +kernel
theorem d_58_114 : decode (mC 58) 114 = .ok (.goto 4, 3) := by decide +kernel
theorem d_58_133 : decode (mC 58) 133 = .ok (.aload_n 0, 1) := by decide +kernel
theorem d_58_134 : decode (mC 58) 134 = .ok (.invokevirtual 57, 3) := by decide +kernel
theorem d_58_137 : decode (mC 58) 137 = .ok (.ifCond .eq 16, 3) := by decide +kernel
theorem d_58_140 : decode (mC 58) 140 = .ok (.aload_n 0, 1) := by decide +kernel
theorem d_58_141 : decode (mC 58) 141 = .ok (.bipush 100, 2) := by decide +kernel
theorem bi_100 : (Int8.ofInt 100).toInt32 = 100 := by decide +kernel
theorem d_58_143 : decode (mC 58) 143 = .ok (.invokevirtual 64, 3) := by decide +kernel
theorem d_58_146 : decode (mC 58) 146 = .ok (.ifCond .eq 7, 3) := by decide +kernel
theorem d_58_149 : decode (mC 58) 149 = .ok (.iconst 1, 1) := by decide +kernel
theorem d_58_150 : decode (mC 58) 150 = .ok (.goto 4, 3) := by decide +kernel
theorem d_58_169 : decode (mC 58) 169 = .ok (.aload_n 0, 1) := by decide +kernel
theorem d_58_170 : decode (mC 58) 170 = .ok (.invokevirtual 57, 3) := by decide +kernel
theorem d_58_173 : decode (mC 58) 173 = .ok (.ifCond .eq 17, 3) := by decide +kernel
theorem d_58_176 : decode (mC 58) 176 = .ok (.aload_n 0, 1) := by decide +kernel
theorem d_58_177 : decode (mC 58) 177 = .ok (.sipush 999, 3) := by decide +kernel
theorem si_999 : (Int16.ofInt 999).toInt32 = 999 := by decide +kernel
theorem d_58_180 : decode (mC 58) 180 = .ok (.invokevirtual 64, 3) := by decide +kernel
theorem d_58_183 : decode (mC 58) 183 = .ok (.ifCond .eq 7, 3) := by decide +kernel
theorem d_58_186 : decode (mC 58) 186 = .ok (.iconst 1, 1) := by decide +kernel
theorem d_58_187 : decode (mC 58) 187 = .ok (.goto 4, 3) := by decide +kernel
theorem d_58_206 : decode (mC 58) 206 = .ok (.aload_n 0, 1) := by decide +kernel
theorem d_58_207 : decode (mC 58) 207 = .ok (.iconst 2, 1) := by decide +kernel
theorem d_58_208 : decode (mC 58) 208 = .ok (.invokevirtual 80, 3) := by decide +kernel
theorem vk_58_80 : VK 58 80 60 1 5 := ⟨⟨List.mem_of_getElem? (i := 712) (by decide +kernel), by decide +kernel⟩, List.mem_of_getElem? (i := 714) (by decide +kernel), mo_60, m0_60, _, rfl, List.mem_of_getElem? (i := 6) (by decide +kernel), by decide⟩
theorem d_58_211 : decode (mC 58) 211 = .ok (.istore_n 1, 1) := by decide +kernel
theorem d_77_75 : decode (mC 77) 75 = .ok (.iload_n 3, 1) := by decide +kernel
theorem d_77_76 : decode (mC 77) 76 = .ok (.iload_n 2, 1) := by decide +kernel
theorem d_77_77 : decode (mC 77) 77 = .ok (.if_icmp .ge 30, 3) := by decide +kernel
theorem d_77_80 : decode (mC 77) 80 = .ok (.aload_n 0, 1) := by decide +kernel
theorem d_77_81 : decode (mC 77) 81 = .ok (.getfield 34, 3) := by decide +kernel
theorem fk_CordLoft_Plan_34 : FK 2 "CordLoft$Plan" 34 4 10 := ⟨⟨_, rfl, by decide, List.mem_of_getElem? (i := 260) (by decide +kernel)⟩, rfl, by decide⟩
theorem cn_77 : (mN 77).cls = "CordLoft$Plan" := by decide +kernel
theorem ft_5_10 : finT 5 10 = some (8, 1) := by decide +kernel
theorem kr_5_8 {p : Nat} (h : kd0 p = 5) : kd0 (p + 8) = 20 := by
  have h1 : p < 138 := kd_138 h (by decide)
  have h2 : ∀ p, p < 138 → kd0 p = 5 → kd0 (p + 8) = 20 := by decide +kernel
  exact h2 p h1 h
theorem lr_5_8 {p : Nat} (h : kd0 p = 5) : ln0 (p + 8) = 256 := by
  have h1 : p < 138 := kd_138 h (by decide)
  have h2 : ∀ p, p < 138 → kd0 p = 5 → ln0 (p + 8) = 256 := by decide +kernel
  exact h2 p h1 h
theorem d_77_84 : decode (mC 77) 84 = .ok (.iload_n 2, 1) := by decide +kernel
theorem d_77_85 : decode (mC 77) 85 = .ok (.iload_n 3, 1) := by decide +kernel
theorem d_77_86 : decode (mC 77) 86 = .ok (.iadd, 1) := by decide +kernel
theorem d_77_87 : decode (mC 77) 87 = .ok (.aload_n 0, 1) := by decide +kernel
theorem d_77_88 : decode (mC 77) 88 = .ok (.getfield 34, 3) := by decide +kernel
theorem d_77_91 : decode (mC 77) 91 = .ok (.iload_n 3, 1) := by decide +kernel
theorem d_77_92 : decode (mC 77) 92 = .ok (.iaload, 1) := by decide +kernel
theorem d_77_93 : decode (mC 77) 93 = .ok (.aload_n 0, 1) := by decide +kernel
theorem d_77_94 : decode (mC 77) 94 = .ok (.getfield 28, 3) := by decide +kernel
theorem d_77_97 : decode (mC 77) 97 = .ok (.iload_n 1, 1) := by decide +kernel
theorem d_77_98 : decode (mC 77) 98 = .ok (.iaload, 1) := by decide +kernel
theorem d_77_99 : decode (mC 77) 99 = .ok (.ixor, 1) := by decide +kernel
theorem d_77_100 : decode (mC 77) 100 = .ok (.iastore, 1) := by decide +kernel
theorem d_77_101 : decode (mC 77) 101 = .ok (.iinc 3 1, 3) := by decide +kernel
theorem ml_77 : mL 77 = 4 := by decide +kernel
theorem d_77_104 : decode (mC 77) 104 = .ok (.goto (-29), 3) := by decide +kernel
theorem d_77_34 : decode (mC 77) 34 = .ok (.iload_n 2, 1) := by decide +kernel
theorem d_77_35 : decode (mC 77) 35 = .ok (.aload_n 0, 1) := by decide +kernel
theorem d_77_36 : decode (mC 77) 36 = .ok (.getfield 51, 3) := by decide +kernel
theorem d_77_39 : decode (mC 77) 39 = .ok (.if_icmp .ge 30, 3) := by decide +kernel
theorem d_77_42 : decode (mC 77) 42 = .ok (.aload_n 0, 1) := by decide +kernel
theorem d_77_43 : decode (mC 77) 43 = .ok (.getfield 19, 3) := by decide +kernel
theorem d_77_46 : decode (mC 77) 46 = .ok (.iload_n 2, 1) := by decide +kernel
theorem d_77_47 : decode (mC 77) 47 = .ok (.dup2, 1) := by decide +kernel
theorem d_77_48 : decode (mC 77) 48 = .ok (.iaload, 1) := by decide +kernel
theorem d_77_49 : decode (mC 77) 49 = .ok (.aload_n 0, 1) := by decide +kernel
theorem d_77_50 : decode (mC 77) 50 = .ok (.getfield 28, 3) := by decide +kernel
theorem d_77_53 : decode (mC 77) 53 = .ok (.iload_n 1, 1) := by decide +kernel
theorem d_77_54 : decode (mC 77) 54 = .ok (.iaload, 1) := by decide +kernel
theorem d_77_55 : decode (mC 77) 55 = .ok (.iload_n 2, 1) := by decide +kernel
theorem d_77_56 : decode (mC 77) 56 = .ok (.ishr, 1) := by decide +kernel
theorem d_77_57 : decode (mC 77) 57 = .ok (.iconst 1, 1) := by decide +kernel
theorem d_77_58 : decode (mC 77) 58 = .ok (.iand, 1) := by decide +kernel
theorem d_77_59 : decode (mC 77) 59 = .ok (.iload_n 1, 1) := by decide +kernel
theorem d_77_60 : decode (mC 77) 60 = .ok (.ishl, 1) := by decide +kernel
theorem d_77_61 : decode (mC 77) 61 = .ok (.ior, 1) := by decide +kernel
theorem d_77_62 : decode (mC 77) 62 = .ok (.iastore, 1) := by decide +kernel
theorem d_77_63 : decode (mC 77) 63 = .ok (.iinc 2 1, 3) := by decide +kernel
theorem d_77_66 : decode (mC 77) 66 = .ok (.goto (-32), 3) := by decide +kernel
theorem d_77_24 : decode (mC 77) 24 = .ok (.iload_n 1, 1) := by decide +kernel
theorem d_77_25 : decode (mC 77) 25 = .ok (.aload_n 0, 1) := by decide +kernel
theorem d_77_26 : decode (mC 77) 26 = .ok (.getfield 58, 3) := by decide +kernel
theorem d_77_29 : decode (mC 77) 29 = .ok (.if_icmp .ge 84, 3) := by decide +kernel
theorem d_77_32 : decode (mC 77) 32 = .ok (.iconst 0, 1) := by decide +kernel
theorem d_77_33 : decode (mC 77) 33 = .ok (.istore_n 2, 1) := by decide +kernel
theorem d_77_69 : decode (mC 77) 69 = .ok (.iconst 1, 1) := by decide +kernel
theorem d_77_70 : decode (mC 77) 70 = .ok (.iload_n 1, 1) := by decide +kernel
theorem d_77_71 : decode (mC 77) 71 = .ok (.ishl, 1) := by decide +kernel
theorem d_77_72 : decode (mC 77) 72 = .ok (.istore_n 2, 1) := by decide +kernel
theorem d_77_73 : decode (mC 77) 73 = .ok (.iconst 0, 1) := by decide +kernel
theorem d_77_74 : decode (mC 77) 74 = .ok (.istore_n 3, 1) := by decide +kernel
theorem d_77_107 : decode (mC 77) 107 = .ok (.iinc 1 1, 3) := by decide +kernel
theorem d_77_110 : decode (mC 77) 110 = .ok (.goto (-86), 3) := by decide +kernel
theorem d_77_2 : decode (mC 77) 2 = .ok (.iload_n 1, 1) := by decide +kernel
theorem d_77_3 : decode (mC 77) 3 = .ok (.sipush 128, 3) := by decide +kernel
theorem d_77_6 : decode (mC 77) 6 = .ok (.if_icmp .ge 16, 3) := by decide +kernel
theorem d_77_9 : decode (mC 77) 9 = .ok (.aload_n 0, 1) := by decide +kernel
theorem d_77_10 : decode (mC 77) 10 = .ok (.getfield 44, 3) := by decide +kernel
theorem fk_CordLoft_Plan_44 : FK 2 "CordLoft$Plan" 44 4 12 := ⟨⟨_, rfl, by decide, List.mem_of_getElem? (i := 266) (by decide +kernel)⟩, rfl, by decide⟩
theorem ft_5_12 : finT 5 12 = some (13, 1) := by decide +kernel
theorem kr_5_13 {p : Nat} (h : kd0 p = 5) : kd0 (p + 13) = 20 := by
  have h1 : p < 138 := kd_138 h (by decide)
  have h2 : ∀ p, p < 138 → kd0 p = 5 → kd0 (p + 13) = 20 := by decide +kernel
  exact h2 p h1 h
theorem lr_5_13 {p : Nat} (h : kd0 p = 5) : ln0 (p + 13) = 128 := by
  have h1 : p < 138 := kd_138 h (by decide)
  have h2 : ∀ p, p < 138 → kd0 p = 5 → ln0 (p + 13) = 128 := by decide +kernel
  exact h2 p h1 h
theorem d_77_13 : decode (mC 77) 13 = .ok (.iload_n 1, 1) := by decide +kernel
theorem d_77_14 : decode (mC 77) 14 = .ok (.iconst (-1), 1) := by decide +kernel
theorem d_77_15 : decode (mC 77) 15 = .ok (.iastore, 1) := by decide +kernel
theorem d_77_16 : decode (mC 77) 16 = .ok (.iinc 1 1, 3) := by decide +kernel
theorem d_77_19 : decode (mC 77) 19 = .ok (.goto (-17), 3) := by decide +kernel
theorem d_77_0 : decode (mC 77) 0 = .ok (.iconst 0, 1) := by decide +kernel
theorem d_77_1 : decode (mC 77) 1 = .ok (.istore_n 1, 1) := by decide +kernel
theorem d_77_22 : decode (mC 77) 22 = .ok (.iconst 0, 1) := by decide +kernel
theorem d_77_23 : decode (mC 77) 23 = .ok (.istore_n 1, 1) := by decide +kernel
theorem d_77_113 : decode (mC 77) 113 = .ok (.return_, 1) := by decide +kernel
theorem mr_77 : mR 77 = none := by decide +kernel
theorem d_55_29 : decode (mC 55) 29 = .ok (.iload_n 2, 1) := by decide +kernel
theorem d_55_30 : decode (mC 55) 30 = .ok (.sipush 1600, 3) := by decide +kernel
theorem d_55_33 : decode (mC 55) 33 = .ok (.if_icmp .gt 28, 3) := by decide +kernel
theorem d_55_36 : decode (mC 55) 36 = .ok (.aload_n 0, 1) := by decide +kernel
theorem d_55_37 : decode (mC 55) 37 = .ok (.getfield 9, 3) := by decide +kernel
theorem cn_55 : (mN 55).cls = "CordLoft$Reader" := by decide +kernel
theorem d_55_40 : decode (mC 55) 40 = .ok (.getfield 36, 3) := by decide +kernel
theorem d_55_43 : decode (mC 55) 43 = .ok (.ifCond .eq 18, 3) := by decide +kernel
theorem d_55_46 : decode (mC 55) 46 = .ok (.aload_n 0, 1) := by decide +kernel
theorem d_55_47 : decode (mC 55) 47 = .ok (.invokevirtual 41, 3) := by decide +kernel
theorem mo_58 : MOK 58 := ⟨List.mem_of_getElem? (i := 707) (by decide +kernel), by decide +kernel, ⟨by decide +kernel, by decide +kernel⟩, List.mem_of_getElem? (i := 91) (by decide +kernel), by decide +kernel⟩
theorem m0_58 : M0K 58 := ⟨by decide +kernel, by decide +kernel⟩
theorem vk_55_41 : VK 55 41 58 0 5 := ⟨⟨List.mem_of_getElem? (i := 704) (by decide +kernel), by decide +kernel⟩, List.mem_of_getElem? (i := 706) (by decide +kernel), mo_58, m0_58, _, rfl, List.mem_of_getElem? (i := 4) (by decide +kernel), by decide⟩
theorem d_55_50 : decode (mC 55) 50 = .ok (.ifCond .ne 5, 3) := by decide +kernel
theorem d_55_55 : decode (mC 55) 55 = .ok (.iinc 2 1, 3) := by decide +kernel
theorem ml_55 : mL 55 = 3 := by decide +kernel
theorem d_55_58 : decode (mC 55) 58 = .ok (.goto (-29), 3) := by decide +kernel
theorem d_55_53 : decode (mC 55) 53 = .ok (.iconst 0, 1) := by decide +kernel
theorem d_55_54 : decode (mC 55) 54 = .ok (.ireturn, 1) := by decide +kernel
theorem mr_55 : mR 55 = some .boolean := by decide +kernel
theorem d_55_0 : decode (mC 55) 0 = .ok (.aload_n 0, 1) := by decide +kernel
theorem d_55_1 : decode (mC 55) 1 = .ok (.aload_n 1, 1) := by decide +kernel
theorem d_55_2 : decode (mC 55) 2 = .ok (.putfield 15, 3) := by decide +kernel
theorem fp_CordLoft_Reader_15 : FP 2 "CordLoft$Reader" 15 5 1 := ⟨⟨_, rfl, by decide, List.mem_of_getElem? (i := 177) (by decide +kernel), rfl⟩, rfl, by decide, by decide +kernel⟩
theorem d_55_5 : decode (mC 55) 5 = .ok (.aload_n 0, 1) := by decide +kernel
theorem d_55_6 : decode (mC 55) 6 = .ok (.getfield 15, 3) := by decide +kernel
theorem d_55_9 : decode (mC 55) 9 = .ok (.invokevirtual 19, 3) := by decide +kernel
theorem mo_56 : MOK 56 := ⟨List.mem_of_getElem? (i := 699) (by decide +kernel), by decide +kernel, ⟨by decide +kernel, by decide +kernel⟩, List.mem_of_getElem? (i := 92) (by decide +kernel), by decide +kernel⟩
theorem m0_56 : M0K 56 := ⟨by decide +kernel, by decide +kernel⟩
theorem vk_55_19 : VK 55 19 56 0 4 := ⟨⟨List.mem_of_getElem? (i := 696) (by decide +kernel), by decide +kernel⟩, List.mem_of_getElem? (i := 697) (by decide +kernel), mo_56, m0_56, _, rfl, List.mem_of_getElem? (i := 698) (by decide +kernel), by decide⟩
theorem d_55_12 : decode (mC 55) 12 = .ok (.aload_n 0, 1) := by decide +kernel
theorem d_55_13 : decode (mC 55) 13 = .ok (.iconst 0, 1) := by decide +kernel
theorem d_55_14 : decode (mC 55) 14 = .ok (.putfield 24, 3) := by decide +kernel
theorem d_55_17 : decode (mC 55) 17 = .ok (.aload_n 0, 1) := by decide +kernel
theorem d_55_18 : decode (mC 55) 18 = .ok (.iconst 0, 1) := by decide +kernel
theorem d_55_19 : decode (mC 55) 19 = .ok (.putfield 28, 3) := by decide +kernel
theorem d_55_22 : decode (mC 55) 22 = .ok (.aload_n 0, 1) := by decide +kernel
theorem d_55_23 : decode (mC 55) 23 = .ok (.iconst (-1), 1) := by decide +kernel
theorem d_55_24 : decode (mC 55) 24 = .ok (.putfield 31, 3) := by decide +kernel
theorem d_55_27 : decode (mC 55) 27 = .ok (.iconst 0, 1) := by decide +kernel
theorem d_55_28 : decode (mC 55) 28 = .ok (.istore_n 2, 1) := by decide +kernel
theorem d_55_61 : decode (mC 55) 61 = .ok (.aload_n 0, 1) := by decide +kernel
theorem d_55_62 : decode (mC 55) 62 = .ok (.getfield 15, 3) := by decide +kernel
theorem d_55_65 : decode (mC 55) 65 = .ok (.invokevirtual 45, 3) := by decide +kernel
theorem mo_77 : MOK 77 := ⟨List.mem_of_getElem? (i := 783) (by decide +kernel), by decide +kernel, ⟨by decide +kernel, by decide +kernel⟩, List.mem_of_getElem? (i := 92) (by decide +kernel), by decide +kernel⟩
theorem m0_77 : M0K 77 := ⟨by decide +kernel, by decide +kernel⟩
theorem vk_55_45 : VK 55 45 77 0 4 := ⟨⟨List.mem_of_getElem? (i := 780) (by decide +kernel), by decide +kernel⟩, List.mem_of_getElem? (i := 781) (by decide +kernel), mo_77, m0_77, _, rfl, List.mem_of_getElem? (i := 782) (by decide +kernel), by decide⟩
theorem d_55_68 : decode (mC 55) 68 = .ok (.iconst 1, 1) := by decide +kernel
theorem d_55_69 : decode (mC 55) 69 = .ok (.ireturn, 1) := by decide +kernel
theorem k_38 : kd0 38 = 1 := by decide +kernel
theorem d_78_0 : decode (mC 78) 0 = .ok (.aload_n 0, 1) := by decide +kernel
theorem d_78_1 : decode (mC 78) 1 = .ok (.getfield 11, 3) := by decide +kernel
theorem fk_CordLoft_Acts_11 : FK 2 "CordLoft$Acts" 11 0 0 := ⟨⟨_, rfl, by decide, List.mem_of_getElem? (i := 353) (by decide +kernel)⟩, rfl, by decide⟩
theorem cn_78 : (mN 78).cls = "CordLoft$Acts" := by decide +kernel
theorem ft_1_0 : finT 1 0 = some (39, 0) := by decide +kernel
theorem k_39 : kd0 39 = 24 := by decide +kernel
theorem l_39 : ln0 39 = 41 := by decide +kernel
theorem d_78_4 : decode (mC 78) 4 = .ok (.aload_n 0, 1) := by decide +kernel
theorem d_78_5 : decode (mC 78) 5 = .ok (.getfield 16, 3) := by decide +kernel
theorem fk_CordLoft_Acts_16 : FK 0 "CordLoft$Acts" 16 0 1 := ⟨⟨_, rfl, by decide, List.mem_of_getElem? (i := 354) (by decide +kernel)⟩, rfl, by decide⟩
theorem d_78_8 : decode (mC 78) 8 = .ok (.aaload, 1) := by decide +kernel
theorem d_78_9 : decode (mC 78) 9 = .ok (.areturn, 1) := by decide +kernel
theorem mr_78 : mR 78 = some (.object "CordLoft$State") := by decide +kernel
theorem ml_78 : mL 78 = 1 := by decide +kernel
theorem d_79_0 : decode (mC 79) 0 = .ok (.aload_n 0, 1) := by decide +kernel
theorem d_79_1 : decode (mC 79) 1 = .ok (.aload_n 1, 1) := by decide +kernel
theorem d_79_2 : decode (mC 79) 2 = .ok (.getfield 7, 3) := by decide +kernel
theorem fk_CordLoft_State_7 : FK 0 "CordLoft$State" 7 4 1 := ⟨⟨_, rfl, by decide, List.mem_of_getElem? (i := 232) (by decide +kernel)⟩, rfl, by decide⟩
theorem cn_79 : (mN 79).cls = "CordLoft$State" := by decide +kernel
theorem d_79_5 : decode (mC 79) 5 = .ok (.putfield 13, 3) := by decide +kernel
theorem fp_CordLoft_State_13 : FP 0 "CordLoft$State" 13 8 0 := ⟨⟨_, rfl, by decide, List.mem_of_getElem? (i := 328) (by decide +kernel), rfl⟩, rfl, by decide, by decide +kernel⟩
theorem d_79_8 : decode (mC 79) 8 = .ok (.aload_n 0, 1) := by decide +kernel
theorem d_79_9 : decode (mC 79) 9 = .ok (.iconst 0, 1) := by decide +kernel
theorem d_79_10 : decode (mC 79) 10 = .ok (.putfield 18, 3) := by decide +kernel
theorem fp_CordLoft_State_18 : FP 0 "CordLoft$State" 18 8 1 := ⟨⟨_, rfl, by decide, List.mem_of_getElem? (i := 332) (by decide +kernel), rfl⟩, rfl, by decide, by decide +kernel⟩
theorem d_79_13 : decode (mC 79) 13 = .ok (.aload_n 0, 1) := by decide +kernel
theorem d_79_14 : decode (mC 79) 14 = .ok (.iconst 0, 1) := by decide +kernel
theorem d_79_15 : decode (mC 79) 15 = .ok (.putfield 21, 3) := by decide +kernel
theorem fp_CordLoft_State_21 : FP 0 "CordLoft$State" 21 8 2 := ⟨⟨_, rfl, by decide, List.mem_of_getElem? (i := 336) (by decide +kernel), rfl⟩, rfl, by decide, by decide +kernel⟩
theorem d_79_18 : decode (mC 79) 18 = .ok (.aload_n 0, 1) := by decide +kernel
theorem d_79_19 : decode (mC 79) 19 = .ok (.iconst 0, 1) := by decide +kernel
theorem d_79_20 : decode (mC 79) 20 = .ok (.putfield 24, 3) := by decide +kernel
theorem fp_CordLoft_State_24 : FP 0 "CordLoft$State" 24 8 3 := ⟨⟨_, rfl, by decide, List.mem_of_getElem? (i := 338) (by decide +kernel), rfl⟩, rfl, by decide, by decide +kernel⟩
theorem d_79_23 : decode (mC 79) 23 = .ok (.aload_n 0, 1) := by decide +kernel
theorem d_79_24 : decode (mC 79) 24 = .ok (.aload_n 1, 1) := by decide +kernel
theorem d_79_25 : decode (mC 79) 25 = .ok (.getfield 27, 3) := by decide +kernel
theorem fk_CordLoft_State_27 : FK 0 "CordLoft$State" 27 4 16 := ⟨⟨_, rfl, by decide, List.mem_of_getElem? (i := 276) (by decide +kernel)⟩, rfl, by decide⟩
theorem d_79_28 : decode (mC 79) 28 = .ok (.putfield 30, 3) := by decide +kernel
theorem fp_CordLoft_State_30 : FP 0 "CordLoft$State" 30 8 4 := ⟨⟨_, rfl, by decide, List.mem_of_getElem? (i := 340) (by decide +kernel), rfl⟩, rfl, by decide, by decide +kernel⟩
theorem d_79_31 : decode (mC 79) 31 = .ok (.return_, 1) := by decide +kernel
theorem mr_79 : mR 79 = none := by decide +kernel
theorem ml_79 : mL 79 = 2 := by decide +kernel
theorem d_80_0 : decode (mC 80) 0 = .ok (.aload_n 0, 1) := by decide +kernel
theorem d_80_1 : decode (mC 80) 1 = .ok (.getfield 11, 3) := by decide +kernel
theorem cn_80 : (mN 80).cls = "CordLoft$Acts" := by decide +kernel
theorem d_80_4 : decode (mC 80) 4 = .ok (.aload_n 0, 1) := by decide +kernel
theorem d_80_5 : decode (mC 80) 5 = .ok (.getfield 16, 3) := by decide +kernel
theorem d_80_8 : decode (mC 80) 8 = .ok (.aaload, 1) := by decide +kernel
theorem d_80_9 : decode (mC 80) 9 = .ok (.astore_n 1, 1) := by decide +kernel
theorem ml_80 : mL 80 = 2 := by decide +kernel
theorem d_80_10 : decode (mC 80) 10 = .ok (.aload_n 0, 1) := by decide +kernel
theorem d_80_11 : decode (mC 80) 11 = .ok (.getfield 11, 3) := by decide +kernel
theorem d_80_14 : decode (mC 80) 14 = .ok (.aload_n 0, 1) := by decide +kernel
theorem d_80_15 : decode (mC 80) 15 = .ok (.getfield 16, 3) := by decide +kernel
theorem d_80_18 : decode (mC 80) 18 = .ok (.aload_n 0, 1) := by decide +kernel
theorem d_80_19 : decode (mC 80) 19 = .ok (.getfield 11, 3) := by decide +kernel
theorem d_80_22 : decode (mC 80) 22 = .ok (.iconst 0, 1) := by decide +kernel
theorem d_80_23 : decode (mC 80) 23 = .ok (.aaload, 1) := by decide +kernel
theorem d_80_24 : decode (mC 80) 24 = .ok (.aastore, 1) := by decide +kernel
theorem d_80_25 : decode (mC 80) 25 = .ok (.aload_n 0, 1) := by decide +kernel
theorem d_80_26 : decode (mC 80) 26 = .ok (.getfield 11, 3) := by decide +kernel
theorem d_80_29 : decode (mC 80) 29 = .ok (.iconst 0, 1) := by decide +kernel
theorem d_80_30 : decode (mC 80) 30 = .ok (.aload_n 1, 1) := by decide +kernel
theorem d_80_31 : decode (mC 80) 31 = .ok (.aastore, 1) := by decide +kernel
theorem d_80_32 : decode (mC 80) 32 = .ok (.aload_n 0, 1) := by decide +kernel
theorem d_80_33 : decode (mC 80) 33 = .ok (.iconst 0, 1) := by decide +kernel
theorem d_80_34 : decode (mC 80) 34 = .ok (.putfield 16, 3) := by decide +kernel
theorem fp_CordLoft_Acts_16 : FP 0 "CordLoft$Acts" 16 0 1 := ⟨⟨_, rfl, by decide, List.mem_of_getElem? (i := 354) (by decide +kernel), rfl⟩, rfl, by decide, by decide +kernel⟩
theorem d_80_37 : decode (mC 80) 37 = .ok (.aload_n 0, 1) := by decide +kernel
theorem d_80_38 : decode (mC 80) 38 = .ok (.iconst 0, 1) := by decide +kernel
theorem d_80_39 : decode (mC 80) 39 = .ok (.putfield 23, 3) := by decide +kernel
theorem fp_CordLoft_Acts_23 : FP 0 "CordLoft$Acts" 23 0 2 := ⟨⟨_, rfl, by decide, List.mem_of_getElem? (i := 356) (by decide +kernel), rfl⟩, rfl, by decide, by decide +kernel⟩
theorem d_80_42 : decode (mC 80) 42 = .ok (.return_, 1) := by decide +kernel
theorem mr_80 : mR 80 = none := by decide +kernel
theorem k_99 : kd0 99 = 8 := by decide +kernel
theorem d_81_0 : decode (mC 81) 0 = .ok (.aload_n 0, 1) := by decide +kernel
theorem d_81_1 : decode (mC 81) 1 = .ok (.iconst 0, 1) := by decide +kernel
theorem d_81_2 : decode (mC 81) 2 = .ok (.putfield 25, 3) := by decide +kernel
theorem fp_CordLoft_Sight_25 : FP 0 "CordLoft$Sight" 25 7 6 := ⟨⟨_, rfl, by decide, List.mem_of_getElem? (i := 458) (by decide +kernel), rfl⟩, rfl, by decide, by decide +kernel⟩
theorem cn_81 : (mN 81).cls = "CordLoft$Sight" := by decide +kernel
theorem d_81_5 : decode (mC 81) 5 = .ok (.return_, 1) := by decide +kernel
theorem mr_81 : mR 81 = none := by decide +kernel
theorem ml_81 : mL 81 = 1 := by decide +kernel
theorem k_92 : kd0 92 = 4 := by decide +kernel
theorem d_82_0 : decode (mC 82) 0 = .ok (.aload_n 0, 1) := by decide +kernel
theorem d_82_1 : decode (mC 82) 1 = .ok (.iconst 0, 1) := by decide +kernel
theorem d_82_2 : decode (mC 82) 2 = .ok (.putfield 32, 3) := by decide +kernel
theorem fp_CordLoft_Paths_32 : FP 0 "CordLoft$Paths" 32 3 7 := ⟨⟨_, rfl, by decide, List.mem_of_getElem? (i := 427) (by decide +kernel), rfl⟩, rfl, by decide, by decide +kernel⟩
theorem cn_82 : (mN 82).cls = "CordLoft$Paths" := by decide +kernel
theorem d_82_5 : decode (mC 82) 5 = .ok (.return_, 1) := by decide +kernel
theorem mr_82 : mR 82 = none := by decide +kernel
theorem ml_82 : mL 82 = 1 := by decide +kernel
theorem d_16_0 : decode (mC 16) 0 = .ok (.aload_n 0, 1) := by decide +kernel
theorem d_16_1 : decode (mC 16) 1 = .ok (.getfield 19, 3) := by decide +kernel
theorem fk_CordLoft_19 : FK 2 "CordLoft" 19 11 1 := ⟨⟨_, rfl, by decide, List.mem_of_getElem? (i := 484) (by decide +kernel)⟩, rfl, by decide⟩
theorem cn_16 : (mN 16).cls = "CordLoft" := by decide +kernel
theorem ft_12_1 : finT 12 1 = some (3, 0) := by decide +kernel
theorem d_16_4 : decode (mC 16) 4 = .ok (.aload_n 0, 1) := by decide +kernel
theorem d_16_5 : decode (mC 16) 5 = .ok (.getfield 10, 3) := by decide +kernel
theorem d_16_8 : decode (mC 16) 8 = .ok (.invokevirtual 102, 3) := by decide +kernel
theorem mo_17 : MOK 17 := ⟨List.mem_of_getElem? (i := 548) (by decide +kernel), by decide +kernel, ⟨by decide +kernel, by decide +kernel⟩, List.mem_of_getElem? (i := 90) (by decide +kernel), by decide +kernel⟩
theorem m0_17 : M0K 17 := ⟨by decide +kernel, by decide +kernel⟩
theorem vk_16_102 : VK 16 102 17 1 10 := ⟨⟨List.mem_of_getElem? (i := 545) (by decide +kernel), by decide +kernel⟩, List.mem_of_getElem? (i := 546) (by decide +kernel), mo_17, m0_17, _, rfl, List.mem_of_getElem? (i := 547) (by decide +kernel), by decide⟩
theorem d_16_11 : decode (mC 16) 11 = .ok (.aload_n 0, 1) := by decide +kernel
theorem d_16_12 : decode (mC 16) 12 = .ok (.getfield 10, 3) := by decide +kernel
theorem d_16_15 : decode (mC 16) 15 = .ok (.iconst 0, 1) := by decide +kernel
theorem d_16_16 : decode (mC 16) 16 = .ok (.putfield 95, 3) := by decide +kernel
theorem d_16_19 : decode (mC 16) 19 = .ok (.aload_n 0, 1) := by decide +kernel
theorem d_16_20 : decode (mC 16) 20 = .ok (.getfield 28, 3) := by decide +kernel
theorem fk_CordLoft_28 : FK 2 "CordLoft" 28 11 2 := ⟨⟨_, rfl, by decide, List.mem_of_getElem? (i := 485) (by decide +kernel)⟩, rfl, by decide⟩
theorem ft_12_2 : finT 12 2 = some (7, 0) := by decide +kernel
theorem l_7 : ln0 7 = 6 := by decide +kernel
theorem d_16_23 : decode (mC 16) 23 = .ok (.aload_n 0, 1) := by decide +kernel
theorem d_16_24 : decode (mC 16) 24 = .ok (.getfield 39, 3) := by decide +kernel
theorem fk_CordLoft_39 : FK 2 "CordLoft" 39 11 4 := ⟨⟨_, rfl, by decide, List.mem_of_getElem? (i := 487) (by decide +kernel)⟩, rfl, by decide⟩
theorem d_16_27 : decode (mC 16) 27 = .ok (.invokevirtual 106, 3) := by decide +kernel
theorem mo_55 : MOK 55 := ⟨List.mem_of_getElem? (i := 695) (by decide +kernel), by decide +kernel, ⟨by decide +kernel, by decide +kernel⟩, List.mem_of_getElem? (i := 91) (by decide +kernel), by decide +kernel⟩
theorem m0_55 : M0K 55 := ⟨by decide +kernel, by decide +kernel⟩
theorem vk_16_106 : VK 16 106 55 1 5 := ⟨⟨List.mem_of_getElem? (i := 692) (by decide +kernel), by decide +kernel⟩, List.mem_of_getElem? (i := 693) (by decide +kernel), mo_55, m0_55, _, rfl, List.mem_of_getElem? (i := 694) (by decide +kernel), by decide⟩
theorem d_16_30 : decode (mC 16) 30 = .ok (.istore_n 1, 1) := by decide +kernel
theorem ml_16 : mL 16 = 3 := by decide +kernel
theorem d_16_31 : decode (mC 16) 31 = .ok (.aload_n 0, 1) := by decide +kernel
theorem d_16_32 : decode (mC 16) 32 = .ok (.aload_n 0, 1) := by decide +kernel
theorem d_16_33 : decode (mC 16) 33 = .ok (.getfield 28, 3) := by decide +kernel
theorem d_16_36 : decode (mC 16) 36 = .ok (.getfield 110, 3) := by decide +kernel
theorem fk_CordLoft_110 : FK 0 "CordLoft" 110 5 4 := ⟨⟨_, rfl, by decide, List.mem_of_getElem? (i := 181) (by decide +kernel)⟩, rfl, by decide⟩
theorem d_16_39 : decode (mC 16) 39 = .ok (.putfield 89, 3) := by decide +kernel
theorem fp_CordLoft_89 : FP 0 "CordLoft" 89 11 13 := ⟨⟨_, rfl, by decide, List.mem_of_getElem? (i := 496) (by decide +kernel), rfl⟩, rfl, by decide, by decide +kernel⟩
theorem d_16_42 : decode (mC 16) 42 = .ok (.aload_n 0, 1) := by decide +kernel
theorem d_16_43 : decode (mC 16) 43 = .ok (.aload_n 0, 1) := by decide +kernel
theorem d_16_44 : decode (mC 16) 44 = .ok (.getfield 28, 3) := by decide +kernel
theorem d_16_47 : decode (mC 16) 47 = .ok (.getfield 113, 3) := by decide +kernel
theorem fk_CordLoft_113 : FK 0 "CordLoft" 113 5 5 := ⟨⟨_, rfl, by decide, List.mem_of_getElem? (i := 183) (by decide +kernel)⟩, rfl, by decide⟩
theorem d_16_50 : decode (mC 16) 50 = .ok (.putfield 92, 3) := by decide +kernel
theorem fp_CordLoft_92 : FP 0 "CordLoft" 92 11 14 := ⟨⟨_, rfl, by decide, List.mem_of_getElem? (i := 497) (by decide +kernel), rfl⟩, rfl, by decide, by decide +kernel⟩
theorem d_16_53 : decode (mC 16) 53 = .ok (.iload_n 1, 1) := by decide +kernel
theorem d_16_54 : decode (mC 16) 54 = .ok (.ifCond .ne 5, 3) := by decide +kernel
theorem d_16_59 : decode (mC 16) 59 = .ok (.aload_n 0, 1) := by decide +kernel
theorem d_16_60 : decode (mC 16) 60 = .ok (.getfield 35, 3) := by decide +kernel
theorem fk_CordLoft_35 : FK 2 "CordLoft" 35 11 3 := ⟨⟨_, rfl, by decide, List.mem_of_getElem? (i := 486) (by decide +kernel)⟩, rfl, by decide⟩
theorem d_16_63 : decode (mC 16) 63 = .ok (.astore_n 2, 1) := by decide +kernel
theorem d_16_64 : decode (mC 16) 64 = .ok (.aload_n 0, 1) := by decide +kernel
theorem d_16_65 : decode (mC 16) 65 = .ok (.aload_n 0, 1) := by decide +kernel
theorem d_16_66 : decode (mC 16) 66 = .ok (.getfield 39, 3) := by decide +kernel
theorem d_16_69 : decode (mC 16) 69 = .ok (.putfield 35, 3) := by decide +kernel
theorem fp_CordLoft_35 : FP 2 "CordLoft" 35 11 3 := ⟨⟨_, rfl, by decide, List.mem_of_getElem? (i := 486) (by decide +kernel), rfl⟩, rfl, by decide, by decide +kernel⟩
theorem d_16_72 : decode (mC 16) 72 = .ok (.aload_n 0, 1) := by decide +kernel
theorem d_16_73 : decode (mC 16) 73 = .ok (.aload_n 2, 1) := by decide +kernel
theorem d_16_74 : decode (mC 16) 74 = .ok (.putfield 39, 3) := by decide +kernel
theorem fp_CordLoft_39 : FP 2 "CordLoft" 39 11 4 := ⟨⟨_, rfl, by decide, List.mem_of_getElem? (i := 487) (by decide +kernel), rfl⟩, rfl, by decide, by decide +kernel⟩
theorem d_16_77 : decode (mC 16) 77 = .ok (.aload_n 0, 1) := by decide +kernel
theorem d_16_78 : decode (mC 16) 78 = .ok (.getfield 45, 3) := by decide +kernel
theorem fk_CordLoft_45 : FK 2 "CordLoft" 45 11 5 := ⟨⟨_, rfl, by decide, List.mem_of_getElem? (i := 488) (by decide +kernel)⟩, rfl, by decide⟩
theorem ft_12_5 : finT 12 5 = some (38, 0) := by decide +kernel
theorem l_38 : ln0 38 = 3 := by decide +kernel
theorem d_16_81 : decode (mC 16) 81 = .ok (.invokevirtual 114, 3) := by decide +kernel
theorem mo_78 : MOK 78 := ⟨List.mem_of_getElem? (i := 787) (by decide +kernel), by decide +kernel, ⟨by decide +kernel, by decide +kernel⟩, List.mem_of_getElem? (i := 94) (by decide +kernel), by decide +kernel⟩
theorem m0_78 : M0K 78 := ⟨by decide +kernel, by decide +kernel⟩
theorem vk_16_114 : VK 16 114 78 0 0 := ⟨⟨List.mem_of_getElem? (i := 784) (by decide +kernel), by decide +kernel⟩, List.mem_of_getElem? (i := 785) (by decide +kernel), mo_78, m0_78, _, rfl, List.mem_of_getElem? (i := 786) (by decide +kernel), by decide⟩
theorem d_16_84 : decode (mC 16) 84 = .ok (.aload_n 0, 1) := by decide +kernel
theorem d_16_85 : decode (mC 16) 85 = .ok (.getfield 35, 3) := by decide +kernel
theorem d_16_88 : decode (mC 16) 88 = .ok (.invokevirtual 118, 3) := by decide +kernel
theorem mo_79 : MOK 79 := ⟨List.mem_of_getElem? (i := 791) (by decide +kernel), by decide +kernel, ⟨by decide +kernel, by decide +kernel⟩, List.mem_of_getElem? (i := 95) (by decide +kernel), by decide +kernel⟩
theorem m0_79 : M0K 79 := ⟨by decide +kernel, by decide +kernel⟩
theorem vk_16_118 : VK 16 118 79 1 8 := ⟨⟨List.mem_of_getElem? (i := 788) (by decide +kernel), by decide +kernel⟩, List.mem_of_getElem? (i := 789) (by decide +kernel), mo_79, m0_79, _, rfl, List.mem_of_getElem? (i := 790) (by decide +kernel), by decide⟩
theorem d_16_91 : decode (mC 16) 91 = .ok (.aload_n 0, 1) := by decide +kernel
theorem d_16_92 : decode (mC 16) 92 = .ok (.getfield 45, 3) := by decide +kernel
theorem d_16_95 : decode (mC 16) 95 = .ok (.invokevirtual 122, 3) := by decide +kernel
theorem mo_80 : MOK 80 := ⟨List.mem_of_getElem? (i := 795) (by decide +kernel), by decide +kernel, ⟨by decide +kernel, by decide +kernel⟩, List.mem_of_getElem? (i := 94) (by decide +kernel), by decide +kernel⟩
theorem m0_80 : M0K 80 := ⟨by decide +kernel, by decide +kernel⟩
theorem vk_16_122 : VK 16 122 80 0 0 := ⟨⟨List.mem_of_getElem? (i := 792) (by decide +kernel), by decide +kernel⟩, List.mem_of_getElem? (i := 793) (by decide +kernel), mo_80, m0_80, _, rfl, List.mem_of_getElem? (i := 794) (by decide +kernel), by decide⟩
theorem d_16_98 : decode (mC 16) 98 = .ok (.aload_n 0, 1) := by decide +kernel
theorem d_16_99 : decode (mC 16) 99 = .ok (.getfield 81, 3) := by decide +kernel
theorem fk_CordLoft_81 : FK 2 "CordLoft" 81 11 11 := ⟨⟨_, rfl, by decide, List.mem_of_getElem? (i := 494) (by decide +kernel)⟩, rfl, by decide⟩
theorem ft_12_11 : finT 12 11 = some (99, 0) := by decide +kernel
theorem l_99 : ln0 99 = 9 := by decide +kernel
theorem d_16_102 : decode (mC 16) 102 = .ok (.invokevirtual 125, 3) := by decide +kernel
theorem mo_81 : MOK 81 := ⟨List.mem_of_getElem? (i := 799) (by decide +kernel), by decide +kernel, ⟨by decide +kernel, by decide +kernel⟩, List.mem_of_getElem? (i := 99) (by decide +kernel), by decide +kernel⟩
theorem m0_81 : M0K 81 := ⟨by decide +kernel, by decide +kernel⟩
theorem vk_16_125 : VK 16 125 81 0 7 := ⟨⟨List.mem_of_getElem? (i := 796) (by decide +kernel), by decide +kernel⟩, List.mem_of_getElem? (i := 797) (by decide +kernel), mo_81, m0_81, _, rfl, List.mem_of_getElem? (i := 798) (by decide +kernel), by decide⟩
theorem d_16_105 : decode (mC 16) 105 = .ok (.aload_n 0, 1) := by decide +kernel
theorem d_16_106 : decode (mC 16) 106 = .ok (.getfield 74, 3) := by decide +kernel
theorem fk_CordLoft_74 : FK 2 "CordLoft" 74 11 10 := ⟨⟨_, rfl, by decide, List.mem_of_getElem? (i := 493) (by decide +kernel)⟩, rfl, by decide⟩
theorem ft_12_10 : finT 12 10 = some (92, 0) := by decide +kernel
theorem l_92 : ln0 92 = 8 := by decide +kernel
theorem d_16_109 : decode (mC 16) 109 = .ok (.invokevirtual 126, 3) := by decide +kernel
theorem mo_82 : MOK 82 := ⟨List.mem_of_getElem? (i := 803) (by decide +kernel), by decide +kernel, ⟨by decide +kernel, by decide +kernel⟩, List.mem_of_getElem? (i := 98) (by decide +kernel), by decide +kernel⟩
theorem m0_82 : M0K 82 := ⟨by decide +kernel, by decide +kernel⟩
theorem vk_16_126 : VK 16 126 82 0 3 := ⟨⟨List.mem_of_getElem? (i := 800) (by decide +kernel), by decide +kernel⟩, List.mem_of_getElem? (i := 801) (by decide +kernel), mo_82, m0_82, _, rfl, List.mem_of_getElem? (i := 802) (by decide +kernel), by decide⟩
theorem d_16_112 : decode (mC 16) 112 = .ok (.aload_n 0, 1) := by decide +kernel
theorem d_16_113 : decode (mC 16) 113 = .ok (.iconst 0, 1) := by decide +kernel
theorem d_16_114 : decode (mC 16) 114 = .ok (.putfield 60, 3) := by decide +kernel
theorem fp_CordLoft_60 : FP 0 "CordLoft" 60 11 8 := ⟨⟨_, rfl, by decide, List.mem_of_getElem? (i := 491) (by decide +kernel), rfl⟩, rfl, by decide, by decide +kernel⟩
theorem d_16_117 : decode (mC 16) 117 = .ok (.aload_n 0, 1) := by decide +kernel
theorem d_16_118 : decode (mC 16) 118 = .ok (.getfield 35, 3) := by decide +kernel
theorem d_16_121 : decode (mC 16) 121 = .ok (.getfield 129, 3) := by decide +kernel
theorem fk_CordLoft_129 : FK 0 "CordLoft" 129 4 0 := ⟨⟨_, rfl, by decide, List.mem_of_getElem? (i := 230) (by decide +kernel)⟩, rfl, by decide⟩
theorem d_16_124 : decode (mC 16) 124 = .ok (.ireturn, 1) := by decide +kernel
theorem mr_16 : mR 16 = some .int := by decide +kernel
theorem d_16_57 : decode (mC 16) 57 = .ok (.iconst (-1), 1) := by decide +kernel
theorem d_16_58 : decode (mC 16) 58 = .ok (.ireturn, 1) := by decide +kernel
theorem d_84_0 : decode (mC 84) 0 = .ok (.iload_n 0, 1) := by decide +kernel
theorem d_84_1 : decode (mC 84) 1 = .ok (.ifCond .ne 5, 3) := by decide +kernel
theorem d_84_6 : decode (mC 84) 6 = .ok (.iload_n 0, 1) := by decide +kernel
theorem d_84_7 : decode (mC 84) 7 = .ok (.iconst 1, 1) := by decide +kernel
theorem d_84_8 : decode (mC 84) 8 = .ok (.if_icmp .ne 7, 3) := by decide +kernel
theorem d_84_15 : decode (mC 84) 15 = .ok (.iconst (-1), 1) := by decide +kernel
theorem d_84_16 : decode (mC 84) 16 = .ok (.ireturn, 1) := by decide +kernel
theorem mr_84 : mR 84 = some .int := by decide +kernel
theorem d_84_11 : decode (mC 84) 11 = .ok (.iload_n 2, 1) := by decide +kernel
theorem d_84_12 : decode (mC 84) 12 = .ok (.goto 4, 3) := by decide +kernel
theorem d_84_4 : decode (mC 84) 4 = .ok (.iload_n 1, 1) := by decide +kernel
theorem d_84_5 : decode (mC 84) 5 = .ok (.ireturn, 1) := by decide +kernel
theorem ml_84 : mL 84 = 3 := by decide +kernel
theorem d_83_0 : decode (mC 83) 0 = .ok (.iload_n 1, 1) := by decide +kernel
theorem d_83_1 : decode (mC 83) 1 = .ok (.aload_n 0, 1) := by decide +kernel
theorem d_83_2 : decode (mC 83) 2 = .ok (.getfield 89, 3) := by decide +kernel
theorem fk_CordLoft_89 : FK 0 "CordLoft" 89 11 13 := ⟨⟨_, rfl, by decide, List.mem_of_getElem? (i := 496) (by decide +kernel)⟩, rfl, by decide⟩
theorem cn_83 : (mN 83).cls = "CordLoft" := by decide +kernel
theorem d_83_5 : decode (mC 83) 5 = .ok (.aload_n 0, 1) := by decide +kernel
theorem d_83_6 : decode (mC 83) 6 = .ok (.getfield 92, 3) := by decide +kernel
theorem fk_CordLoft_92 : FK 0 "CordLoft" 92 11 14 := ⟨⟨_, rfl, by decide, List.mem_of_getElem? (i := 497) (by decide +kernel)⟩, rfl, by decide⟩
theorem d_83_9 : decode (mC 83) 9 = .ok (.invokestatic 132, 3) := by decide +kernel
theorem mo_84 : MOK 84 := ⟨List.mem_of_getElem? (i := 810) (by decide +kernel), by decide +kernel, ⟨by decide +kernel, by decide +kernel⟩, List.mem_of_getElem? (i := 88) (by decide +kernel), by decide +kernel⟩
theorem m0_84 : M0K 84 := ⟨by decide +kernel, by decide +kernel⟩
theorem sk_83_132 : SKc 83 132 84 3 := ⟨⟨List.mem_of_getElem? (i := 808) (by decide +kernel), by decide +kernel⟩, List.mem_of_getElem? (i := 809) (by decide +kernel), mo_84, m0_84⟩
theorem d_83_12 : decode (mC 83) 12 = .ok (.ireturn, 1) := by decide +kernel
theorem mr_83 : mR 83 = some .int := by decide +kernel
theorem ml_83 : mL 83 = 2 := by decide +kernel
theorem d_86_0 : decode (mC 86) 0 = .ok (.iload_n 1, 1) := by decide +kernel
theorem d_86_1 : decode (mC 86) 1 = .ok (.ifCond .lt 15, 3) := by decide +kernel
theorem d_86_16 : decode (mC 86) 16 = .ok (.iconst 0, 1) := by decide +kernel
theorem d_86_17 : decode (mC 86) 17 = .ok (.ireturn, 1) := by decide +kernel
theorem mr_86 : mR 86 = some .boolean := by decide +kernel
theorem d_86_4 : decode (mC 86) 4 = .ok (.iload_n 1, 1) := by decide +kernel
theorem d_86_5 : decode (mC 86) 5 = .ok (.aload_n 0, 1) := by decide +kernel
theorem d_86_6 : decode (mC 86) 6 = .ok (.getfield 51, 3) := by decide +kernel
theorem cn_86 : (mN 86).cls = "CordLoft$Plan" := by decide +kernel
theorem d_86_9 : decode (mC 86) 9 = .ok (.if_icmp .ge 7, 3) := by decide +kernel
theorem d_86_12 : decode (mC 86) 12 = .ok (.iconst 1, 1) := by decide +kernel
theorem d_86_13 : decode (mC 86) 13 = .ok (.goto 4, 3) := by decide +kernel
theorem ml_86 : mL 86 = 2 := by decide +kernel
theorem d_85_0 : decode (mC 85) 0 = .ok (.aload_n 0, 1) := by decide +kernel
theorem d_85_1 : decode (mC 85) 1 = .ok (.getfield 35, 3) := by decide +kernel
theorem cn_85 : (mN 85).cls = "CordLoft" := by decide +kernel
theorem d_85_4 : decode (mC 85) 4 = .ok (.iload_n 1, 1) := by decide +kernel
theorem d_85_5 : decode (mC 85) 5 = .ok (.invokevirtual 136, 3) := by decide +kernel
theorem mo_86 : MOK 86 := ⟨List.mem_of_getElem? (i := 818) (by decide +kernel), by decide +kernel, ⟨by decide +kernel, by decide +kernel⟩, List.mem_of_getElem? (i := 92) (by decide +kernel), by decide +kernel⟩
theorem m0_86 : M0K 86 := ⟨by decide +kernel, by decide +kernel⟩
theorem vk_85_136 : VK 85 136 86 1 4 := ⟨⟨List.mem_of_getElem? (i := 815) (by decide +kernel), by decide +kernel⟩, List.mem_of_getElem? (i := 816) (by decide +kernel), mo_86, m0_86, _, rfl, List.mem_of_getElem? (i := 817) (by decide +kernel), by decide⟩
theorem d_85_8 : decode (mC 85) 8 = .ok (.ifCond .ne 5, 3) := by decide +kernel
theorem d_85_13 : decode (mC 85) 13 = .ok (.iload_n 2, 1) := by decide +kernel
theorem d_85_14 : decode (mC 85) 14 = .ok (.tableswitch 75 0 3 #[30, 45, 55, 65], 30) := by decide +kernel
theorem d_85_44 : decode (mC 85) 44 = .ok (.aload_n 0, 1) := by decide +kernel
theorem d_85_45 : decode (mC 85) 45 = .ok (.getfield 45, 3) := by decide +kernel
theorem d_85_48 : decode (mC 85) 48 = .ok (.invokevirtual 114, 3) := by decide +kernel
theorem vk_85_114 : VK 85 114 78 0 0 := ⟨⟨List.mem_of_getElem? (i := 784) (by decide +kernel), by decide +kernel⟩, List.mem_of_getElem? (i := 785) (by decide +kernel), mo_78, m0_78, _, rfl, List.mem_of_getElem? (i := 786) (by decide +kernel), by decide⟩
theorem d_85_51 : decode (mC 85) 51 = .ok (.getfield 140, 3) := by decide +kernel
theorem fk_CordLoft_140 : FK 0 "CordLoft" 140 8 0 := ⟨⟨_, rfl, by decide, List.mem_of_getElem? (i := 331) (by decide +kernel)⟩, rfl, by decide⟩
theorem d_85_54 : decode (mC 85) 54 = .ok (.iload_n 1, 1) := by decide +kernel
theorem d_85_55 : decode (mC 85) 55 = .ok (.ishr, 1) := by decide +kernel
theorem d_85_56 : decode (mC 85) 56 = .ok (.iconst 1, 1) := by decide +kernel
theorem d_85_57 : decode (mC 85) 57 = .ok (.iand, 1) := by decide +kernel
theorem d_85_58 : decode (mC 85) 58 = .ok (.ireturn, 1) := by decide +kernel
theorem mr_85 : mR 85 = some .int := by decide +kernel
theorem d_85_59 : decode (mC 85) 59 = .ok (.aload_n 0, 1) := by decide +kernel
theorem d_85_60 : decode (mC 85) 60 = .ok (.getfield 35, 3) := by decide +kernel
theorem d_85_63 : decode (mC 85) 63 = .ok (.getfield 143, 3) := by decide +kernel
theorem fk_CordLoft_143 : FK 2 "CordLoft" 143 4 3 := ⟨⟨_, rfl, by decide, List.mem_of_getElem? (i := 239) (by decide +kernel)⟩, rfl, by decide⟩
theorem d_85_66 : decode (mC 85) 66 = .ok (.iload_n 1, 1) := by decide +kernel
theorem d_85_67 : decode (mC 85) 67 = .ok (.iaload, 1) := by decide +kernel
theorem d_85_68 : decode (mC 85) 68 = .ok (.ireturn, 1) := by decide +kernel
theorem d_85_69 : decode (mC 85) 69 = .ok (.aload_n 0, 1) := by decide +kernel
theorem d_85_70 : decode (mC 85) 70 = .ok (.getfield 35, 3) := by decide +kernel
theorem d_85_73 : decode (mC 85) 73 = .ok (.getfield 146, 3) := by decide +kernel
theorem fk_CordLoft_146 : FK 2 "CordLoft" 146 4 4 := ⟨⟨_, rfl, by decide, List.mem_of_getElem? (i := 241) (by decide +kernel)⟩, rfl, by decide⟩
theorem d_85_76 : decode (mC 85) 76 = .ok (.iload_n 1, 1) := by decide +kernel
theorem d_85_77 : decode (mC 85) 77 = .ok (.iaload, 1) := by decide +kernel
theorem d_85_78 : decode (mC 85) 78 = .ok (.ireturn, 1) := by decide +kernel
theorem d_85_79 : decode (mC 85) 79 = .ok (.aload_n 0, 1) := by decide +kernel
theorem d_85_80 : decode (mC 85) 80 = .ok (.getfield 35, 3) := by decide +kernel
theorem d_85_83 : decode (mC 85) 83 = .ok (.getfield 149, 3) := by decide +kernel
theorem fk_CordLoft_149 : FK 2 "CordLoft" 149 4 5 := ⟨⟨_, rfl, by decide, List.mem_of_getElem? (i := 243) (by decide +kernel)⟩, rfl, by decide⟩
theorem d_85_86 : decode (mC 85) 86 = .ok (.iload_n 1, 1) := by decide +kernel
theorem d_85_87 : decode (mC 85) 87 = .ok (.iaload, 1) := by decide +kernel
theorem d_85_88 : decode (mC 85) 88 = .ok (.ireturn, 1) := by decide +kernel
theorem d_85_89 : decode (mC 85) 89 = .ok (.iconst (-1), 1) := by decide +kernel
theorem d_85_90 : decode (mC 85) 90 = .ok (.ireturn, 1) := by decide +kernel
theorem d_85_11 : decode (mC 85) 11 = .ok (.iconst (-1), 1) := by decide +kernel
theorem d_85_12 : decode (mC 85) 12 = .ok (.ireturn, 1) := by decide +kernel
theorem ml_85 : mL 85 = 3 := by decide +kernel
theorem d_88_0 : decode (mC 88) 0 = .ok (.iload_n 1, 1) := by decide +kernel
theorem d_88_1 : decode (mC 88) 1 = .ok (.ifCond .lt 15, 3) := by decide +kernel
theorem d_88_16 : decode (mC 88) 16 = .ok (.iconst 0, 1) := by decide +kernel
theorem d_88_17 : decode (mC 88) 17 = .ok (.ireturn, 1) := by decide +kernel
theorem mr_88 : mR 88 = some .boolean := by decide +kernel
theorem d_88_4 : decode (mC 88) 4 = .ok (.iload_n 1, 1) := by decide +kernel
theorem d_88_5 : decode (mC 88) 5 = .ok (.aload_n 0, 1) := by decide +kernel
theorem d_88_6 : decode (mC 88) 6 = .ok (.getfield 58, 3) := by decide +kernel
theorem cn_88 : (mN 88).cls = "CordLoft$Plan" := by decide +kernel
theorem d_88_9 : decode (mC 88) 9 = .ok (.if_icmp .ge 7, 3) := by decide +kernel
theorem d_88_12 : decode (mC 88) 12 = .ok (.iconst 1, 1) := by decide +kernel
theorem d_88_13 : decode (mC 88) 13 = .ok (.goto 4, 3) := by decide +kernel
theorem ml_88 : mL 88 = 2 := by decide +kernel
theorem d_87_0 : decode (mC 87) 0 = .ok (.aload_n 0, 1) := by decide +kernel
theorem d_87_1 : decode (mC 87) 1 = .ok (.getfield 35, 3) := by decide +kernel
theorem cn_87 : (mN 87).cls = "CordLoft" := by decide +kernel
theorem d_87_4 : decode (mC 87) 4 = .ok (.iload_n 1, 1) := by decide +kernel
theorem d_87_5 : decode (mC 87) 5 = .ok (.invokevirtual 152, 3) := by decide +kernel
theorem mo_88 : MOK 88 := ⟨List.mem_of_getElem? (i := 826) (by decide +kernel), by decide +kernel, ⟨by decide +kernel, by decide +kernel⟩, List.mem_of_getElem? (i := 92) (by decide +kernel), by decide +kernel⟩
theorem m0_88 : M0K 88 := ⟨by decide +kernel, by decide +kernel⟩
theorem vk_87_152 : VK 87 152 88 1 4 := ⟨⟨List.mem_of_getElem? (i := 823) (by decide +kernel), by decide +kernel⟩, List.mem_of_getElem? (i := 824) (by decide +kernel), mo_88, m0_88, _, rfl, List.mem_of_getElem? (i := 825) (by decide +kernel), by decide⟩
theorem d_87_8 : decode (mC 87) 8 = .ok (.ifCond .ne 5, 3) := by decide +kernel
theorem d_87_13 : decode (mC 87) 13 = .ok (.iload_n 2, 1) := by decide +kernel
theorem d_87_14 : decode (mC 87) 14 = .ok (.tableswitch 61 0 2 #[26, 36, 46], 26) := by decide +kernel
theorem d_87_40 : decode (mC 87) 40 = .ok (.aload_n 0, 1) := by decide +kernel
theorem d_87_41 : decode (mC 87) 41 = .ok (.getfield 35, 3) := by decide +kernel
theorem d_87_44 : decode (mC 87) 44 = .ok (.getfield 155, 3) := by decide +kernel
theorem fk_CordLoft_155 : FK 2 "CordLoft" 155 4 8 := ⟨⟨_, rfl, by decide, List.mem_of_getElem? (i := 254) (by decide +kernel)⟩, rfl, by decide⟩
theorem d_87_47 : decode (mC 87) 47 = .ok (.iload_n 1, 1) := by decide +kernel
theorem d_87_48 : decode (mC 87) 48 = .ok (.iaload, 1) := by decide +kernel
theorem d_87_49 : decode (mC 87) 49 = .ok (.ireturn, 1) := by decide +kernel
theorem mr_87 : mR 87 = some .int := by decide +kernel
theorem d_87_50 : decode (mC 87) 50 = .ok (.aload_n 0, 1) := by decide +kernel
theorem d_87_51 : decode (mC 87) 51 = .ok (.getfield 35, 3) := by decide +kernel
theorem d_87_54 : decode (mC 87) 54 = .ok (.getfield 158, 3) := by decide +kernel
theorem fk_CordLoft_158 : FK 2 "CordLoft" 158 4 9 := ⟨⟨_, rfl, by decide, List.mem_of_getElem? (i := 258) (by decide +kernel)⟩, rfl, by decide⟩
theorem d_87_57 : decode (mC 87) 57 = .ok (.iload_n 1, 1) := by decide +kernel
theorem d_87_58 : decode (mC 87) 58 = .ok (.iaload, 1) := by decide +kernel
theorem d_87_59 : decode (mC 87) 59 = .ok (.ireturn, 1) := by decide +kernel
theorem d_87_60 : decode (mC 87) 60 = .ok (.aload_n 0, 1) := by decide +kernel
theorem d_87_61 : decode (mC 87) 61 = .ok (.getfield 45, 3) := by decide +kernel
theorem d_87_64 : decode (mC 87) 64 = .ok (.invokevirtual 114, 3) := by decide +kernel
theorem vk_87_114 : VK 87 114 78 0 0 := ⟨⟨List.mem_of_getElem? (i := 784) (by decide +kernel), by decide +kernel⟩, List.mem_of_getElem? (i := 785) (by decide +kernel), mo_78, m0_78, _, rfl, List.mem_of_getElem? (i := 786) (by decide +kernel), by decide⟩
theorem d_87_67 : decode (mC 87) 67 = .ok (.getfield 161, 3) := by decide +kernel
theorem fk_CordLoft_161 : FK 0 "CordLoft" 161 8 1 := ⟨⟨_, rfl, by decide, List.mem_of_getElem? (i := 335) (by decide +kernel)⟩, rfl, by decide⟩
theorem d_87_70 : decode (mC 87) 70 = .ok (.iload_n 1, 1) := by decide +kernel
theorem d_87_71 : decode (mC 87) 71 = .ok (.ishr, 1) := by decide +kernel
theorem d_87_72 : decode (mC 87) 72 = .ok (.iconst 1, 1) := by decide +kernel
theorem d_87_73 : decode (mC 87) 73 = .ok (.iand, 1) := by decide +kernel
theorem d_87_74 : decode (mC 87) 74 = .ok (.ireturn, 1) := by decide +kernel
theorem d_87_75 : decode (mC 87) 75 = .ok (.iconst (-1), 1) := by decide +kernel
theorem d_87_76 : decode (mC 87) 76 = .ok (.ireturn, 1) := by decide +kernel
theorem d_87_11 : decode (mC 87) 11 = .ok (.iconst (-1), 1) := by decide +kernel
theorem d_87_12 : decode (mC 87) 12 = .ok (.ireturn, 1) := by decide +kernel
theorem ml_87 : mL 87 = 3 := by decide +kernel
theorem d_89_0 : decode (mC 89) 0 = .ok (.aload_n 0, 1) := by decide +kernel
theorem d_89_1 : decode (mC 89) 1 = .ok (.getfield 45, 3) := by decide +kernel
theorem cn_89 : (mN 89).cls = "CordLoft" := by decide +kernel
theorem d_89_4 : decode (mC 89) 4 = .ok (.invokevirtual 114, 3) := by decide +kernel
theorem vk_89_114 : VK 89 114 78 0 0 := ⟨⟨List.mem_of_getElem? (i := 784) (by decide +kernel), by decide +kernel⟩, List.mem_of_getElem? (i := 785) (by decide +kernel), mo_78, m0_78, _, rfl, List.mem_of_getElem? (i := 786) (by decide +kernel), by decide⟩
theorem d_89_7 : decode (mC 89) 7 = .ok (.getfield 140, 3) := by decide +kernel
theorem d_89_10 : decode (mC 89) 10 = .ok (.ireturn, 1) := by decide +kernel
theorem mr_89 : mR 89 = some .int := by decide +kernel
theorem ml_89 : mL 89 = 1 := by decide +kernel
theorem d_91_0 : decode (mC 91) 0 = .ok (.aload_n 0, 1) := by decide +kernel
theorem d_91_1 : decode (mC 91) 1 = .ok (.getfield 35, 3) := by decide +kernel
theorem cn_91 : (mN 91).cls = "CordLoft" := by decide +kernel
theorem d_91_4 : decode (mC 91) 4 = .ok (.iload_n 1, 1) := by decide +kernel
theorem d_91_5 : decode (mC 91) 5 = .ok (.invokevirtual 152, 3) := by decide +kernel
theorem vk_91_152 : VK 91 152 88 1 4 := ⟨⟨List.mem_of_getElem? (i := 823) (by decide +kernel), by decide +kernel⟩, List.mem_of_getElem? (i := 824) (by decide +kernel), mo_88, m0_88, _, rfl, List.mem_of_getElem? (i := 825) (by decide +kernel), by decide⟩
theorem d_91_8 : decode (mC 91) 8 = .ok (.ifCond .eq 24, 3) := by decide +kernel
theorem d_91_32 : decode (mC 91) 32 = .ok (.iconst 0, 1) := by decide +kernel
theorem d_91_33 : decode (mC 91) 33 = .ok (.ireturn, 1) := by decide +kernel
theorem mr_91 : mR 91 = some .boolean := by decide +kernel
theorem d_91_11 : decode (mC 91) 11 = .ok (.aload_n 0, 1) := by decide +kernel
theorem d_91_12 : decode (mC 91) 12 = .ok (.getfield 45, 3) := by decide +kernel
theorem d_91_15 : decode (mC 91) 15 = .ok (.invokevirtual 114, 3) := by decide +kernel
theorem vk_91_114 : VK 91 114 78 0 0 := ⟨⟨List.mem_of_getElem? (i := 784) (by decide +kernel), by decide +kernel⟩, List.mem_of_getElem? (i := 785) (by decide +kernel), mo_78, m0_78, _, rfl, List.mem_of_getElem? (i := 786) (by decide +kernel), by decide⟩
theorem d_91_18 : decode (mC 91) 18 = .ok (.getfield 161, 3) := by decide +kernel
theorem d_91_21 : decode (mC 91) 21 = .ok (.iload_n 1, 1) := by decide +kernel
theorem d_91_22 : decode (mC 91) 22 = .ok (.ishr, 1) := by decide +kernel
theorem d_91_23 : decode (mC 91) 23 = .ok (.iconst 1, 1) := by decide +kernel
theorem d_91_24 : decode (mC 91) 24 = .ok (.iand, 1) := by decide +kernel
theorem d_91_25 : decode (mC 91) 25 = .ok (.ifCond .ne 7, 3) := by decide +kernel
theorem d_91_28 : decode (mC 91) 28 = .ok (.iconst 1, 1) := by decide +kernel
theorem d_91_29 : decode (mC 91) 29 = .ok (.goto 4, 3) := by decide +kernel
theorem ml_91 : mL 91 = 2 := by decide +kernel
theorem d_92_0 : decode (mC 92) 0 = .ok (.iload_n 0, 1) := by decide +kernel
theorem d_92_1 : decode (mC 92) 1 = .ok (.iload_n 0, 1) := by decide +kernel
theorem d_92_2 : decode (mC 92) 2 = .ok (.iconst 1, 1) := by decide +kernel
theorem d_92_3 : decode (mC 92) 3 = .ok (.iushr, 1) := by decide +kernel
theorem d_92_4 : decode (mC 92) 4 = .ok (.ldc_w 265, 3) := by decide +kernel
theorem cn_92 : (mN 92).cls = "java/lang/Integer" := by decide +kernel
theorem cw_java_lang_Integer_265 : Cond.constant "java/lang/Integer" 265 1431655765 ∈ lw_tbl := List.mem_of_getElem? (i := 842) (by decide +kernel)
theorem d_92_7 : decode (mC 92) 7 = .ok (.iand, 1) := by decide +kernel
theorem d_92_8 : decode (mC 92) 8 = .ok (.isub, 1) := by decide +kernel
theorem d_92_9 : decode (mC 92) 9 = .ok (.istore_n 0, 1) := by decide +kernel
theorem ml_92 : mL 92 = 1 := by decide +kernel
theorem d_92_10 : decode (mC 92) 10 = .ok (.iload_n 0, 1) := by decide +kernel
theorem d_92_11 : decode (mC 92) 11 = .ok (.ldc_w 266, 3) := by decide +kernel
theorem cw_java_lang_Integer_266 : Cond.constant "java/lang/Integer" 266 858993459 ∈ lw_tbl := List.mem_of_getElem? (i := 843) (by decide +kernel)
theorem d_92_14 : decode (mC 92) 14 = .ok (.iand, 1) := by decide +kernel
theorem d_92_15 : decode (mC 92) 15 = .ok (.iload_n 0, 1) := by decide +kernel
theorem d_92_16 : decode (mC 92) 16 = .ok (.iconst 2, 1) := by decide +kernel
theorem d_92_17 : decode (mC 92) 17 = .ok (.iushr, 1) := by decide +kernel
theorem d_92_18 : decode (mC 92) 18 = .ok (.ldc_w 266, 3) := by decide +kernel
theorem d_92_21 : decode (mC 92) 21 = .ok (.iand, 1) := by decide +kernel
theorem d_92_22 : decode (mC 92) 22 = .ok (.iadd, 1) := by decide +kernel
theorem d_92_23 : decode (mC 92) 23 = .ok (.istore_n 0, 1) := by decide +kernel
theorem d_92_24 : decode (mC 92) 24 = .ok (.iload_n 0, 1) := by decide +kernel
theorem d_92_25 : decode (mC 92) 25 = .ok (.iload_n 0, 1) := by decide +kernel
theorem d_92_26 : decode (mC 92) 26 = .ok (.iconst 4, 1) := by decide +kernel
theorem d_92_27 : decode (mC 92) 27 = .ok (.iushr, 1) := by decide +kernel
theorem d_92_28 : decode (mC 92) 28 = .ok (.iadd, 1) := by decide +kernel
theorem d_92_29 : decode (mC 92) 29 = .ok (.ldc_w 267, 3) := by decide +kernel
theorem cw_java_lang_Integer_267 : Cond.constant "java/lang/Integer" 267 252645135 ∈ lw_tbl := List.mem_of_getElem? (i := 844) (by decide +kernel)
theorem d_92_32 : decode (mC 92) 32 = .ok (.iand, 1) := by decide +kernel
theorem d_92_33 : decode (mC 92) 33 = .ok (.istore_n 0, 1) := by decide +kernel
theorem d_92_34 : decode (mC 92) 34 = .ok (.iload_n 0, 1) := by decide +kernel
theorem d_92_35 : decode (mC 92) 35 = .ok (.iload_n 0, 1) := by decide +kernel
theorem d_92_36 : decode (mC 92) 36 = .ok (.bipush 8, 2) := by decide +kernel
theorem d_92_38 : decode (mC 92) 38 = .ok (.iushr, 1) := by decide +kernel
theorem d_92_39 : decode (mC 92) 39 = .ok (.iadd, 1) := by decide +kernel
theorem d_92_40 : decode (mC 92) 40 = .ok (.istore_n 0, 1) := by decide +kernel
theorem d_92_41 : decode (mC 92) 41 = .ok (.iload_n 0, 1) := by decide +kernel
theorem d_92_42 : decode (mC 92) 42 = .ok (.iload_n 0, 1) := by decide +kernel
theorem d_92_43 : decode (mC 92) 43 = .ok (.bipush 16, 2) := by decide +kernel
theorem bi_16 : (Int8.ofInt 16).toInt32 = 16 := by decide +kernel
theorem d_92_45 : decode (mC 92) 45 = .ok (.iushr, 1) := by decide +kernel
theorem d_92_46 : decode (mC 92) 46 = .ok (.iadd, 1) := by decide +kernel
theorem d_92_47 : decode (mC 92) 47 = .ok (.istore_n 0, 1) := by decide +kernel
theorem d_92_48 : decode (mC 92) 48 = .ok (.iload_n 0, 1) := by decide +kernel
theorem d_92_49 : decode (mC 92) 49 = .ok (.bipush 63, 2) := by decide +kernel
theorem bi_63 : (Int8.ofInt 63).toInt32 = 63 := by decide +kernel
theorem d_92_51 : decode (mC 92) 51 = .ok (.iand, 1) := by decide +kernel
theorem d_92_52 : decode (mC 92) 52 = .ok (.ireturn, 1) := by decide +kernel
theorem mr_92 : mR 92 = some .int := by decide +kernel
theorem d_94_9 : decode (mC 94) 9 = .ok (.iload_n 2, 1) := by decide +kernel
theorem d_94_10 : decode (mC 94) 10 = .ok (.bipush 40, 2) := by decide +kernel
theorem d_94_12 : decode (mC 94) 12 = .ok (.if_icmp .ge 23, 3) := by decide +kernel
theorem d_94_15 : decode (mC 94) 15 = .ok (.aload_n 0, 1) := by decide +kernel
theorem d_94_16 : decode (mC 94) 16 = .ok (.getfield 11, 3) := by decide +kernel
theorem cn_94 : (mN 94).cls = "CordLoft$Acts" := by decide +kernel
theorem d_94_19 : decode (mC 94) 19 = .ok (.iload_n 2, 1) := by decide +kernel
theorem d_94_20 : decode (mC 94) 20 = .ok (.aload_n 0, 1) := by decide +kernel
theorem d_94_21 : decode (mC 94) 21 = .ok (.getfield 11, 3) := by decide +kernel
theorem d_94_24 : decode (mC 94) 24 = .ok (.iload_n 2, 1) := by decide +kernel
theorem d_94_25 : decode (mC 94) 25 = .ok (.iconst 1, 1) := by decide +kernel
theorem d_94_26 : decode (mC 94) 26 = .ok (.iadd, 1) := by decide +kernel
theorem d_94_27 : decode (mC 94) 27 = .ok (.aaload, 1) := by decide +kernel
theorem d_94_28 : decode (mC 94) 28 = .ok (.aastore, 1) := by decide +kernel
theorem d_94_29 : decode (mC 94) 29 = .ok (.iinc 2 1, 3) := by decide +kernel
theorem ml_94 : mL 94 = 3 := by decide +kernel
theorem d_94_32 : decode (mC 94) 32 = .ok (.goto (-23), 3) := by decide +kernel
theorem d_94_0 : decode (mC 94) 0 = .ok (.aload_n 0, 1) := by decide +kernel
theorem d_94_1 : decode (mC 94) 1 = .ok (.getfield 11, 3) := by decide +kernel
theorem d_94_4 : decode (mC 94) 4 = .ok (.iconst 0, 1) := by decide +kernel
theorem d_94_5 : decode (mC 94) 5 = .ok (.aaload, 1) := by decide +kernel
theorem d_94_6 : decode (mC 94) 6 = .ok (.astore_n 1, 1) := by decide +kernel
theorem d_94_7 : decode (mC 94) 7 = .ok (.iconst 0, 1) := by decide +kernel
theorem d_94_8 : decode (mC 94) 8 = .ok (.istore_n 2, 1) := by decide +kernel
theorem d_94_35 : decode (mC 94) 35 = .ok (.aload_n 0, 1) := by decide +kernel
theorem d_94_36 : decode (mC 94) 36 = .ok (.getfield 11, 3) := by decide +kernel
theorem d_94_39 : decode (mC 94) 39 = .ok (.bipush 40, 2) := by decide +kernel
theorem d_94_41 : decode (mC 94) 41 = .ok (.aload_n 1, 1) := by decide +kernel
theorem d_94_42 : decode (mC 94) 42 = .ok (.aastore, 1) := by decide +kernel
theorem d_94_43 : decode (mC 94) 43 = .ok (.aload_n 0, 1) := by decide +kernel
theorem d_94_44 : decode (mC 94) 44 = .ok (.bipush 39, 2) := by decide +kernel
theorem bi_39 : (Int8.ofInt 39).toInt32 = 39 := by decide +kernel
theorem d_94_46 : decode (mC 94) 46 = .ok (.putfield 16, 3) := by decide +kernel
theorem d_94_49 : decode (mC 94) 49 = .ok (.return_, 1) := by decide +kernel
theorem mr_94 : mR 94 = none := by decide +kernel
theorem d_95_0 : decode (mC 95) 0 = .ok (.aload_n 0, 1) := by decide +kernel
theorem d_95_1 : decode (mC 95) 1 = .ok (.aload_n 1, 1) := by decide +kernel
theorem d_95_2 : decode (mC 95) 2 = .ok (.getfield 13, 3) := by decide +kernel
theorem fk_CordLoft_State_13 : FK 0 "CordLoft$State" 13 8 0 := ⟨⟨_, rfl, by decide, List.mem_of_getElem? (i := 328) (by decide +kernel)⟩, rfl, by decide⟩
theorem cn_95 : (mN 95).cls = "CordLoft$State" := by decide +kernel
theorem d_95_5 : decode (mC 95) 5 = .ok (.putfield 13, 3) := by decide +kernel
theorem d_95_8 : decode (mC 95) 8 = .ok (.aload_n 0, 1) := by decide +kernel
theorem d_95_9 : decode (mC 95) 9 = .ok (.aload_n 1, 1) := by decide +kernel
theorem d_95_10 : decode (mC 95) 10 = .ok (.getfield 18, 3) := by decide +kernel
theorem fk_CordLoft_State_18 : FK 0 "CordLoft$State" 18 8 1 := ⟨⟨_, rfl, by decide, List.mem_of_getElem? (i := 332) (by decide +kernel)⟩, rfl, by decide⟩
theorem d_95_13 : decode (mC 95) 13 = .ok (.putfield 18, 3) := by decide +kernel
theorem d_95_16 : decode (mC 95) 16 = .ok (.aload_n 0, 1) := by decide +kernel
theorem d_95_17 : decode (mC 95) 17 = .ok (.aload_n 1, 1) := by decide +kernel
theorem d_95_18 : decode (mC 95) 18 = .ok (.getfield 21, 3) := by decide +kernel
theorem fk_CordLoft_State_21 : FK 0 "CordLoft$State" 21 8 2 := ⟨⟨_, rfl, by decide, List.mem_of_getElem? (i := 336) (by decide +kernel)⟩, rfl, by decide⟩
theorem d_95_21 : decode (mC 95) 21 = .ok (.putfield 21, 3) := by decide +kernel
theorem d_95_24 : decode (mC 95) 24 = .ok (.aload_n 0, 1) := by decide +kernel
theorem d_95_25 : decode (mC 95) 25 = .ok (.aload_n 1, 1) := by decide +kernel
theorem d_95_26 : decode (mC 95) 26 = .ok (.getfield 24, 3) := by decide +kernel
theorem fk_CordLoft_State_24 : FK 0 "CordLoft$State" 24 8 3 := ⟨⟨_, rfl, by decide, List.mem_of_getElem? (i := 338) (by decide +kernel)⟩, rfl, by decide⟩
theorem d_95_29 : decode (mC 95) 29 = .ok (.putfield 24, 3) := by decide +kernel
theorem d_95_32 : decode (mC 95) 32 = .ok (.aload_n 0, 1) := by decide +kernel
theorem d_95_33 : decode (mC 95) 33 = .ok (.aload_n 1, 1) := by decide +kernel
theorem d_95_34 : decode (mC 95) 34 = .ok (.getfield 30, 3) := by decide +kernel
theorem fk_CordLoft_State_30 : FK 0 "CordLoft$State" 30 8 4 := ⟨⟨_, rfl, by decide, List.mem_of_getElem? (i := 340) (by decide +kernel)⟩, rfl, by decide⟩
theorem d_95_37 : decode (mC 95) 37 = .ok (.putfield 30, 3) := by decide +kernel
theorem d_95_40 : decode (mC 95) 40 = .ok (.return_, 1) := by decide +kernel
theorem mr_95 : mR 95 = none := by decide +kernel
theorem ml_95 : mL 95 = 2 := by decide +kernel
theorem d_93_13 : decode (mC 93) 13 = .ok (.aload_n 0, 1) := by decide +kernel
theorem d_93_14 : decode (mC 93) 14 = .ok (.getfield 11, 3) := by decide +kernel
theorem cn_93 : (mN 93).cls = "CordLoft$Acts" := by decide +kernel
theorem d_93_17 : decode (mC 93) 17 = .ok (.aload_n 0, 1) := by decide +kernel
theorem d_93_18 : decode (mC 93) 18 = .ok (.getfield 16, 3) := by decide +kernel
theorem d_93_21 : decode (mC 93) 21 = .ok (.aaload, 1) := by decide +kernel
theorem d_93_22 : decode (mC 93) 22 = .ok (.astore_n 1, 1) := by decide +kernel
theorem ml_93 : mL 93 = 2 := by decide +kernel
theorem d_93_23 : decode (mC 93) 23 = .ok (.aload_n 0, 1) := by decide +kernel
theorem d_93_24 : decode (mC 93) 24 = .ok (.dup, 1) := by decide +kernel
theorem d_93_25 : decode (mC 93) 25 = .ok (.getfield 16, 3) := by decide +kernel
theorem d_93_28 : decode (mC 93) 28 = .ok (.iconst 1, 1) := by decide +kernel
theorem d_93_29 : decode (mC 93) 29 = .ok (.iadd, 1) := by decide +kernel
theorem d_93_30 : decode (mC 93) 30 = .ok (.putfield 16, 3) := by decide +kernel
theorem d_93_33 : decode (mC 93) 33 = .ok (.aload_n 0, 1) := by decide +kernel
theorem d_93_34 : decode (mC 93) 34 = .ok (.aload_n 0, 1) := by decide +kernel
theorem d_93_35 : decode (mC 93) 35 = .ok (.getfield 16, 3) := by decide +kernel
theorem d_93_38 : decode (mC 93) 38 = .ok (.putfield 23, 3) := by decide +kernel
theorem d_93_41 : decode (mC 93) 41 = .ok (.aload_n 0, 1) := by decide +kernel
theorem d_93_42 : decode (mC 93) 42 = .ok (.getfield 11, 3) := by decide +kernel
theorem d_93_45 : decode (mC 93) 45 = .ok (.aload_n 0, 1) := by decide +kernel
theorem d_93_46 : decode (mC 93) 46 = .ok (.getfield 16, 3) := by decide +kernel
theorem d_93_49 : decode (mC 93) 49 = .ok (.aaload, 1) := by decide +kernel
theorem d_93_50 : decode (mC 93) 50 = .ok (.aload_n 1, 1) := by decide +kernel
theorem d_93_51 : decode (mC 93) 51 = .ok (.invokevirtual 26, 3) := by decide +kernel
theorem mo_95 : MOK 95 := ⟨List.mem_of_getElem? (i := 856) (by decide +kernel), by decide +kernel, ⟨by decide +kernel, by decide +kernel⟩, List.mem_of_getElem? (i := 95) (by decide +kernel), by decide +kernel⟩
theorem m0_95 : M0K 95 := ⟨by decide +kernel, by decide +kernel⟩
theorem vk_93_26 : VK 93 26 95 1 8 := ⟨⟨List.mem_of_getElem? (i := 853) (by decide +kernel), by decide +kernel⟩, List.mem_of_getElem? (i := 854) (by decide +kernel), mo_95, m0_95, _, rfl, List.mem_of_getElem? (i := 855) (by decide +kernel), by decide⟩
theorem d_93_54 : decode (mC 93) 54 = .ok (.aload_n 0, 1) := by decide +kernel
theorem d_93_55 : decode (mC 93) 55 = .ok (.getfield 11, 3) := by decide +kernel
theorem d_93_58 : decode (mC 93) 58 = .ok (.aload_n 0, 1) := by decide +kernel
theorem d_93_59 : decode (mC 93) 59 = .ok (.getfield 16, 3) := by decide +kernel
theorem d_93_62 : decode (mC 93) 62 = .ok (.aaload, 1) := by decide +kernel
theorem d_93_63 : decode (mC 93) 63 = .ok (.areturn, 1) := by decide +kernel
theorem mr_93 : mR 93 = some (.object "CordLoft$State") := by decide +kernel
theorem d_93_0 : decode (mC 93) 0 = .ok (.aload_n 0, 1) := by decide +kernel
theorem d_93_1 : decode (mC 93) 1 = .ok (.getfield 16, 3) := by decide +kernel
theorem d_93_4 : decode (mC 93) 4 = .ok (.bipush 40, 2) := by decide +kernel
theorem d_93_6 : decode (mC 93) 6 = .ok (.if_icmp .lt 7, 3) := by decide +kernel
theorem d_93_9 : decode (mC 93) 9 = .ok (.aload_n 0, 1) := by decide +kernel
theorem d_93_10 : decode (mC 93) 10 = .ok (.invokevirtual 20, 3) := by decide +kernel
theorem mo_94 : MOK 94 := ⟨List.mem_of_getElem? (i := 852) (by decide +kernel), by decide +kernel, ⟨by decide +kernel, by decide +kernel⟩, List.mem_of_getElem? (i := 94) (by decide +kernel), by decide +kernel⟩
theorem m0_94 : M0K 94 := ⟨by decide +kernel, by decide +kernel⟩
theorem vk_93_20 : VK 93 20 94 0 0 := ⟨⟨List.mem_of_getElem? (i := 849) (by decide +kernel), by decide +kernel⟩, List.mem_of_getElem? (i := 851) (by decide +kernel), mo_94, m0_94, _, rfl, List.mem_of_getElem? (i := 18) (by decide +kernel), by decide⟩
theorem d_90_0 : decode (mC 90) 0 = .ok (.aload_n 0, 1) := by decide +kernel
theorem d_90_1 : decode (mC 90) 1 = .ok (.iload_n 1, 1) := by decide +kernel
theorem d_90_2 : decode (mC 90) 2 = .ok (.invokevirtual 164, 3) := by decide +kernel
theorem mo_91 : MOK 91 := ⟨List.mem_of_getElem? (i := 838) (by decide +kernel), by decide +kernel, ⟨by decide +kernel, by decide +kernel⟩, List.mem_of_getElem? (i := 88) (by decide +kernel), by decide +kernel⟩
theorem m0_91 : M0K 91 := ⟨by decide +kernel, by decide +kernel⟩
theorem vk_90_164 : VK 90 164 91 1 11 := ⟨⟨List.mem_of_getElem? (i := 835) (by decide +kernel), by decide +kernel⟩, List.mem_of_getElem? (i := 837) (by decide +kernel), mo_91, m0_91, _, rfl, List.mem_of_getElem? (i := 17) (by decide +kernel), by decide⟩
theorem d_90_5 : decode (mC 90) 5 = .ok (.ifCond .ne 5, 3) := by decide +kernel
theorem d_90_10 : decode (mC 90) 10 = .ok (.aload_n 0, 1) := by decide +kernel
theorem d_90_11 : decode (mC 90) 11 = .ok (.getfield 45, 3) := by decide +kernel
theorem cn_90 : (mN 90).cls = "CordLoft" := by decide +kernel
theorem d_90_14 : decode (mC 90) 14 = .ok (.invokevirtual 114, 3) := by decide +kernel
theorem vk_90_114 : VK 90 114 78 0 0 := ⟨⟨List.mem_of_getElem? (i := 784) (by decide +kernel), by decide +kernel⟩, List.mem_of_getElem? (i := 785) (by decide +kernel), mo_78, m0_78, _, rfl, List.mem_of_getElem? (i := 786) (by decide +kernel), by decide⟩
theorem d_90_17 : decode (mC 90) 17 = .ok (.getfield 140, 3) := by decide +kernel
theorem d_90_20 : decode (mC 90) 20 = .ok (.aload_n 0, 1) := by decide +kernel
theorem d_90_21 : decode (mC 90) 21 = .ok (.getfield 35, 3) := by decide +kernel
theorem d_90_24 : decode (mC 90) 24 = .ok (.getfield 155, 3) := by decide +kernel
theorem d_90_27 : decode (mC 90) 27 = .ok (.iload_n 1, 1) := by decide +kernel
theorem d_90_28 : decode (mC 90) 28 = .ok (.iaload, 1) := by decide +kernel
theorem d_90_29 : decode (mC 90) 29 = .ok (.ixor, 1) := by decide +kernel
theorem d_90_30 : decode (mC 90) 30 = .ok (.istore_n 2, 1) := by decide +kernel
theorem ml_90 : mL 90 = 4 := by decide +kernel
theorem d_90_31 : decode (mC 90) 31 = .ok (.iload_n 2, 1) := by decide +kernel
theorem d_90_32 : decode (mC 90) 32 = .ok (.invokestatic 167, 3) := by decide +kernel
theorem mo_92 : MOK 92 := ⟨List.mem_of_getElem? (i := 841) (by decide +kernel), by decide +kernel, ⟨by decide +kernel, by decide +kernel⟩, List.mem_of_getElem? (i := 107) (by decide +kernel), by decide +kernel⟩
theorem m0_92 : M0K 92 := ⟨by decide +kernel, by decide +kernel⟩
theorem sk_90_167 : SKc 90 167 92 1 := ⟨⟨List.mem_of_getElem? (i := 839) (by decide +kernel), by decide +kernel⟩, List.mem_of_getElem? (i := 840) (by decide +kernel), mo_92, m0_92⟩
theorem d_90_35 : decode (mC 90) 35 = .ok (.aload_n 0, 1) := by decide +kernel
theorem d_90_36 : decode (mC 90) 36 = .ok (.getfield 35, 3) := by decide +kernel
theorem d_90_39 : decode (mC 90) 39 = .ok (.getfield 173, 3) := by decide +kernel
theorem fk_CordLoft_173 : FK 0 "CordLoft" 173 4 14 := ⟨⟨_, rfl, by decide, List.mem_of_getElem? (i := 271) (by decide +kernel)⟩, rfl, by decide⟩
theorem d_90_42 : decode (mC 90) 42 = .ok (.if_icmp .ge 5, 3) := by decide +kernel
theorem d_90_47 : decode (mC 90) 47 = .ok (.aload_n 0, 1) := by decide +kernel
theorem d_90_48 : decode (mC 90) 48 = .ok (.getfield 45, 3) := by decide +kernel
theorem d_90_51 : decode (mC 90) 51 = .ok (.invokevirtual 176, 3) := by decide +kernel
theorem mo_93 : MOK 93 := ⟨List.mem_of_getElem? (i := 848) (by decide +kernel), by decide +kernel, ⟨by decide +kernel, by decide +kernel⟩, List.mem_of_getElem? (i := 94) (by decide +kernel), by decide +kernel⟩
theorem m0_93 : M0K 93 := ⟨by decide +kernel, by decide +kernel⟩
theorem vk_90_176 : VK 90 176 93 0 0 := ⟨⟨List.mem_of_getElem? (i := 845) (by decide +kernel), by decide +kernel⟩, List.mem_of_getElem? (i := 846) (by decide +kernel), mo_93, m0_93, _, rfl, List.mem_of_getElem? (i := 847) (by decide +kernel), by decide⟩
theorem d_90_54 : decode (mC 90) 54 = .ok (.astore_n 3, 1) := by decide +kernel
theorem d_90_55 : decode (mC 90) 55 = .ok (.aload_n 3, 1) := by decide +kernel
theorem d_90_56 : decode (mC 90) 56 = .ok (.iload_n 2, 1) := by decide +kernel
theorem d_90_57 : decode (mC 90) 57 = .ok (.putfield 140, 3) := by decide +kernel
theorem fp_CordLoft_140 : FP 0 "CordLoft" 140 8 0 := ⟨⟨_, rfl, by decide, List.mem_of_getElem? (i := 331) (by decide +kernel), rfl⟩, rfl, by decide, by decide +kernel⟩
theorem d_90_60 : decode (mC 90) 60 = .ok (.aload_n 3, 1) := by decide +kernel
theorem d_90_61 : decode (mC 90) 61 = .ok (.dup, 1) := by decide +kernel
theorem d_90_62 : decode (mC 90) 62 = .ok (.getfield 179, 3) := by decide +kernel
theorem fk_CordLoft_179 : FK 0 "CordLoft" 179 8 2 := ⟨⟨_, rfl, by decide, List.mem_of_getElem? (i := 337) (by decide +kernel)⟩, rfl, by decide⟩
theorem d_90_65 : decode (mC 90) 65 = .ok (.aload_n 0, 1) := by decide +kernel
theorem d_90_66 : decode (mC 90) 66 = .ok (.getfield 35, 3) := by decide +kernel
theorem d_90_69 : decode (mC 90) 69 = .ok (.getfield 158, 3) := by decide +kernel
theorem d_90_72 : decode (mC 90) 72 = .ok (.iload_n 1, 1) := by decide +kernel
theorem d_90_73 : decode (mC 90) 73 = .ok (.iaload, 1) := by decide +kernel
theorem d_90_74 : decode (mC 90) 74 = .ok (.iadd, 1) := by decide +kernel
theorem d_90_75 : decode (mC 90) 75 = .ok (.putfield 179, 3) := by decide +kernel
theorem fp_CordLoft_179 : FP 0 "CordLoft" 179 8 2 := ⟨⟨_, rfl, by decide, List.mem_of_getElem? (i := 337) (by decide +kernel), rfl⟩, rfl, by decide, by decide +kernel⟩
theorem d_90_78 : decode (mC 90) 78 = .ok (.iload_n 2, 1) := by decide +kernel
theorem d_90_79 : decode (mC 90) 79 = .ok (.ireturn, 1) := by decide +kernel
theorem mr_90 : mR 90 = some .int := by decide +kernel
theorem d_90_45 : decode (mC 90) 45 = .ok (.iconst (-1), 1) := by decide +kernel
theorem d_90_46 : decode (mC 90) 46 = .ok (.ireturn, 1) := by decide +kernel
theorem d_90_8 : decode (mC 90) 8 = .ok (.iconst (-1), 1) := by decide +kernel
theorem d_90_9 : decode (mC 90) 9 = .ok (.ireturn, 1) := by decide +kernel
theorem d_96_0 : decode (mC 96) 0 = .ok (.aload_n 0, 1) := by decide +kernel
theorem d_96_1 : decode (mC 96) 1 = .ok (.iload_n 1, 1) := by decide +kernel
theorem d_96_2 : decode (mC 96) 2 = .ok (.invokevirtual 164, 3) := by decide +kernel
theorem vk_96_164 : VK 96 164 91 1 11 := ⟨⟨List.mem_of_getElem? (i := 835) (by decide +kernel), by decide +kernel⟩, List.mem_of_getElem? (i := 837) (by decide +kernel), mo_91, m0_91, _, rfl, List.mem_of_getElem? (i := 17) (by decide +kernel), by decide⟩
theorem d_96_5 : decode (mC 96) 5 = .ok (.ifCond .ne 5, 3) := by decide +kernel
theorem d_96_10 : decode (mC 96) 10 = .ok (.aload_n 0, 1) := by decide +kernel
theorem d_96_11 : decode (mC 96) 11 = .ok (.getfield 45, 3) := by decide +kernel
theorem cn_96 : (mN 96).cls = "CordLoft" := by decide +kernel
theorem d_96_14 : decode (mC 96) 14 = .ok (.invokevirtual 176, 3) := by decide +kernel
theorem vk_96_176 : VK 96 176 93 0 0 := ⟨⟨List.mem_of_getElem? (i := 845) (by decide +kernel), by decide +kernel⟩, List.mem_of_getElem? (i := 846) (by decide +kernel), mo_93, m0_93, _, rfl, List.mem_of_getElem? (i := 847) (by decide +kernel), by decide⟩
theorem d_96_17 : decode (mC 96) 17 = .ok (.astore_n 2, 1) := by decide +kernel
theorem ml_96 : mL 96 = 3 := by decide +kernel
theorem d_96_18 : decode (mC 96) 18 = .ok (.aload_n 2, 1) := by decide +kernel
theorem d_96_19 : decode (mC 96) 19 = .ok (.dup, 1) := by decide +kernel
theorem d_96_20 : decode (mC 96) 20 = .ok (.getfield 161, 3) := by decide +kernel
theorem d_96_23 : decode (mC 96) 23 = .ok (.iconst 1, 1) := by decide +kernel
theorem d_96_24 : decode (mC 96) 24 = .ok (.iload_n 1, 1) := by decide +kernel
theorem d_96_25 : decode (mC 96) 25 = .ok (.ishl, 1) := by decide +kernel
theorem d_96_26 : decode (mC 96) 26 = .ok (.ior, 1) := by decide +kernel
theorem d_96_27 : decode (mC 96) 27 = .ok (.putfield 161, 3) := by decide +kernel
theorem fp_CordLoft_161 : FP 0 "CordLoft" 161 8 1 := ⟨⟨_, rfl, by decide, List.mem_of_getElem? (i := 335) (by decide +kernel), rfl⟩, rfl, by decide, by decide +kernel⟩
theorem d_96_30 : decode (mC 96) 30 = .ok (.aload_n 2, 1) := by decide +kernel
theorem d_96_31 : decode (mC 96) 31 = .ok (.getfield 161, 3) := by decide +kernel
theorem d_96_34 : decode (mC 96) 34 = .ok (.ireturn, 1) := by decide +kernel
theorem mr_96 : mR 96 = some .int := by decide +kernel
theorem d_96_8 : decode (mC 96) 8 = .ok (.iconst (-1), 1) := by decide +kernel
theorem d_96_9 : decode (mC 96) 9 = .ok (.ireturn, 1) := by decide +kernel
theorem d_98_0 : decode (mC 98) 0 = .ok (.aload_n 0, 1) := by decide +kernel
theorem d_98_1 : decode (mC 98) 1 = .ok (.getfield 35, 3) := by decide +kernel
theorem cn_98 : (mN 98).cls = "CordLoft" := by decide +kernel
theorem d_98_4 : decode (mC 98) 4 = .ok (.iload_n 1, 1) := by decide +kernel
theorem d_98_5 : decode (mC 98) 5 = .ok (.invokevirtual 152, 3) := by decide +kernel
theorem vk_98_152 : VK 98 152 88 1 4 := ⟨⟨List.mem_of_getElem? (i := 823) (by decide +kernel), by decide +kernel⟩, List.mem_of_getElem? (i := 824) (by decide +kernel), mo_88, m0_88, _, rfl, List.mem_of_getElem? (i := 825) (by decide +kernel), by decide⟩
theorem d_98_8 : decode (mC 98) 8 = .ok (.ifCond .eq 24, 3) := by decide +kernel
theorem d_98_32 : decode (mC 98) 32 = .ok (.iconst 0, 1) := by decide +kernel
theorem d_98_33 : decode (mC 98) 33 = .ok (.ireturn, 1) := by decide +kernel
theorem mr_98 : mR 98 = some .boolean := by decide +kernel
theorem d_98_11 : decode (mC 98) 11 = .ok (.aload_n 0, 1) := by decide +kernel
theorem d_98_12 : decode (mC 98) 12 = .ok (.getfield 45, 3) := by decide +kernel
theorem d_98_15 : decode (mC 98) 15 = .ok (.invokevirtual 114, 3) := by decide +kernel
theorem vk_98_114 : VK 98 114 78 0 0 := ⟨⟨List.mem_of_getElem? (i := 784) (by decide +kernel), by decide +kernel⟩, List.mem_of_getElem? (i := 785) (by decide +kernel), mo_78, m0_78, _, rfl, List.mem_of_getElem? (i := 786) (by decide +kernel), by decide⟩
theorem d_98_18 : decode (mC 98) 18 = .ok (.getfield 161, 3) := by decide +kernel
theorem d_98_21 : decode (mC 98) 21 = .ok (.iload_n 1, 1) := by decide +kernel
theorem d_98_22 : decode (mC 98) 22 = .ok (.ishr, 1) := by decide +kernel
theorem d_98_23 : decode (mC 98) 23 = .ok (.iconst 1, 1) := by decide +kernel
theorem d_98_24 : decode (mC 98) 24 = .ok (.iand, 1) := by decide +kernel
theorem d_98_25 : decode (mC 98) 25 = .ok (.ifCond .eq 7, 3) := by decide +kernel
theorem d_98_28 : decode (mC 98) 28 = .ok (.iconst 1, 1) := by decide +kernel
theorem d_98_29 : decode (mC 98) 29 = .ok (.goto 4, 3) := by decide +kernel
theorem ml_98 : mL 98 = 2 := by decide +kernel
theorem d_97_0 : decode (mC 97) 0 = .ok (.aload_n 0, 1) := by decide +kernel
theorem d_97_1 : decode (mC 97) 1 = .ok (.iload_n 1, 1) := by decide +kernel
theorem d_97_2 : decode (mC 97) 2 = .ok (.invokevirtual 182, 3) := by decide +kernel
theorem mo_98 : MOK 98 := ⟨List.mem_of_getElem? (i := 868) (by decide +kernel), by decide +kernel, ⟨by decide +kernel, by decide +kernel⟩, List.mem_of_getElem? (i := 88) (by decide +kernel), by decide +kernel⟩
theorem m0_98 : M0K 98 := ⟨by decide +kernel, by decide +kernel⟩
theorem vk_97_182 : VK 97 182 98 1 11 := ⟨⟨List.mem_of_getElem? (i := 865) (by decide +kernel), by decide +kernel⟩, List.mem_of_getElem? (i := 867) (by decide +kernel), mo_98, m0_98, _, rfl, List.mem_of_getElem? (i := 19) (by decide +kernel), by decide⟩
theorem d_97_5 : decode (mC 97) 5 = .ok (.ifCond .ne 5, 3) := by decide +kernel
theorem d_97_10 : decode (mC 97) 10 = .ok (.aload_n 0, 1) := by decide +kernel
theorem d_97_11 : decode (mC 97) 11 = .ok (.getfield 45, 3) := by decide +kernel
theorem cn_97 : (mN 97).cls = "CordLoft" := by decide +kernel
theorem d_97_14 : decode (mC 97) 14 = .ok (.invokevirtual 176, 3) := by decide +kernel
theorem vk_97_176 : VK 97 176 93 0 0 := ⟨⟨List.mem_of_getElem? (i := 845) (by decide +kernel), by decide +kernel⟩, List.mem_of_getElem? (i := 846) (by decide +kernel), mo_93, m0_93, _, rfl, List.mem_of_getElem? (i := 847) (by decide +kernel), by decide⟩
theorem d_97_17 : decode (mC 97) 17 = .ok (.astore_n 2, 1) := by decide +kernel
theorem ml_97 : mL 97 = 3 := by decide +kernel
theorem d_97_18 : decode (mC 97) 18 = .ok (.aload_n 2, 1) := by decide +kernel
theorem d_97_19 : decode (mC 97) 19 = .ok (.dup, 1) := by decide +kernel
theorem d_97_20 : decode (mC 97) 20 = .ok (.getfield 161, 3) := by decide +kernel
theorem d_97_23 : decode (mC 97) 23 = .ok (.iconst 1, 1) := by decide +kernel
theorem d_97_24 : decode (mC 97) 24 = .ok (.iload_n 1, 1) := by decide +kernel
theorem d_97_25 : decode (mC 97) 25 = .ok (.ishl, 1) := by decide +kernel
theorem d_97_26 : decode (mC 97) 26 = .ok (.iconst (-1), 1) := by decide +kernel
theorem d_97_27 : decode (mC 97) 27 = .ok (.ixor, 1) := by decide +kernel
theorem d_97_28 : decode (mC 97) 28 = .ok (.iand, 1) := by decide +kernel
theorem d_97_29 : decode (mC 97) 29 = .ok (.putfield 161, 3) := by decide +kernel
theorem d_97_32 : decode (mC 97) 32 = .ok (.aload_n 2, 1) := by decide +kernel
theorem d_97_33 : decode (mC 97) 33 = .ok (.getfield 161, 3) := by decide +kernel
theorem d_97_36 : decode (mC 97) 36 = .ok (.ireturn, 1) := by decide +kernel
theorem mr_97 : mR 97 = some .int := by decide +kernel
theorem d_97_8 : decode (mC 97) 8 = .ok (.iconst (-1), 1) := by decide +kernel
theorem d_97_9 : decode (mC 97) 9 = .ok (.ireturn, 1) := by decide +kernel
theorem d_102_0 : decode (mC 102) 0 = .ok (.aload_n 0, 1) := by decide +kernel
theorem d_102_1 : decode (mC 102) 1 = .ok (.getfield 19, 3) := by decide +kernel
theorem cn_102 : (mN 102).cls = "CordLoft$Formula" := by decide +kernel
theorem d_102_4 : decode (mC 102) 4 = .ok (.ifCond .ne 7, 3) := by decide +kernel
theorem d_102_11 : decode (mC 102) 11 = .ok (.iconst 0, 1) := by decide +kernel
theorem d_102_12 : decode (mC 102) 12 = .ok (.ireturn, 1) := by decide +kernel
theorem mr_102 : mR 102 = some .boolean := by decide +kernel
theorem d_102_7 : decode (mC 102) 7 = .ok (.iconst 1, 1) := by decide +kernel
theorem d_102_8 : decode (mC 102) 8 = .ok (.goto 4, 3) := by decide +kernel
theorem ml_102 : mL 102 = 1 := by decide +kernel
theorem d_104_0 : decode (mC 104) 0 = .ok (.iload_n 1, 1) := by decide +kernel
theorem d_104_1 : decode (mC 104) 1 = .ok (.sipush 140, 3) := by decide +kernel
theorem d_104_4 : decode (mC 104) 4 = .ok (.isub, 1) := by decide +kernel
theorem d_104_5 : decode (mC 104) 5 = .ok (.istore_n 3, 1) := by decide +kernel
theorem ml_104 : mL 104 = 4 := by decide +kernel
theorem d_104_6 : decode (mC 104) 6 = .ok (.iload_n 3, 1) := by decide +kernel
theorem d_104_7 : decode (mC 104) 7 = .ok (.ifCond .lt 16, 3) := by decide +kernel
theorem d_104_23 : decode (mC 104) 23 = .ok (.return_, 1) := by decide +kernel
theorem mr_104 : mR 104 = none := by decide +kernel
theorem d_104_10 : decode (mC 104) 10 = .ok (.iload_n 3, 1) := by decide +kernel
theorem d_104_11 : decode (mC 104) 11 = .ok (.bipush 6, 2) := by decide +kernel
theorem bi_6 : (Int8.ofInt 6).toInt32 = 6 := by decide +kernel
theorem d_104_13 : decode (mC 104) 13 = .ok (.if_icmp .ge 10, 3) := by decide +kernel
theorem d_104_16 : decode (mC 104) 16 = .ok (.aload_n 0, 1) := by decide +kernel
theorem d_104_17 : decode (mC 104) 17 = .ok (.getfield 16, 3) := by decide +kernel
theorem fk_CordLoft_Formula_16 : FK 2 "CordLoft$Formula" 16 2 3 := ⟨⟨_, rfl, by decide, List.mem_of_getElem? (i := 212) (by decide +kernel)⟩, rfl, by decide⟩
theorem cn_104 : (mN 104).cls = "CordLoft$Formula" := by decide +kernel
theorem ft_3_3 : finT 3 3 = some (3, 1) := by decide +kernel
theorem kr_3_3 {p : Nat} (h : kd0 p = 3) : kd0 (p + 3) = 20 := by
  have h1 : p < 138 := kd_138 h (by decide)
  have h2 : ∀ p, p < 138 → kd0 p = 3 → kd0 (p + 3) = 20 := by decide +kernel
  exact h2 p h1 h
theorem lr_3_3 {p : Nat} (h : kd0 p = 3) : ln0 (p + 3) = 6 := by
  have h1 : p < 138 := kd_138 h (by decide)
  have h2 : ∀ p, p < 138 → kd0 p = 3 → ln0 (p + 3) = 6 := by decide +kernel
  exact h2 p h1 h
theorem d_104_20 : decode (mC 104) 20 = .ok (.iload_n 3, 1) := by decide +kernel
theorem d_104_21 : decode (mC 104) 21 = .ok (.iload_n 2, 1) := by decide +kernel
theorem d_104_22 : decode (mC 104) 22 = .ok (.iastore, 1) := by decide +kernel
theorem d_106_0 : decode (mC 106) 0 = .ok (.iload_n 1, 1) := by decide +kernel
theorem d_106_1 : decode (mC 106) 1 = .ok (.sipush 140, 3) := by decide +kernel
theorem d_106_4 : decode (mC 106) 4 = .ok (.isub, 1) := by decide +kernel
theorem d_106_5 : decode (mC 106) 5 = .ok (.istore_n 2, 1) := by decide +kernel
theorem ml_106 : mL 106 = 3 := by decide +kernel
theorem d_106_6 : decode (mC 106) 6 = .ok (.iload_n 2, 1) := by decide +kernel
theorem d_106_7 : decode (mC 106) 7 = .ok (.ifCond .lt 18, 3) := by decide +kernel
theorem d_106_25 : decode (mC 106) 25 = .ok (.iconst 0, 1) := by decide +kernel
theorem d_106_26 : decode (mC 106) 26 = .ok (.ireturn, 1) := by decide +kernel
theorem mr_106 : mR 106 = some .int := by decide +kernel
theorem d_106_10 : decode (mC 106) 10 = .ok (.iload_n 2, 1) := by decide +kernel
theorem d_106_11 : decode (mC 106) 11 = .ok (.bipush 6, 2) := by decide +kernel
theorem d_106_13 : decode (mC 106) 13 = .ok (.if_icmp .ge 12, 3) := by decide +kernel
theorem d_106_16 : decode (mC 106) 16 = .ok (.aload_n 0, 1) := by decide +kernel
theorem d_106_17 : decode (mC 106) 17 = .ok (.getfield 16, 3) := by decide +kernel
theorem cn_106 : (mN 106).cls = "CordLoft$Formula" := by decide +kernel
theorem d_106_20 : decode (mC 106) 20 = .ok (.iload_n 2, 1) := by decide +kernel
theorem d_106_21 : decode (mC 106) 21 = .ok (.iaload, 1) := by decide +kernel
theorem d_106_22 : decode (mC 106) 22 = .ok (.goto 4, 3) := by decide +kernel
theorem d_107_183 : decode (mC 107) 183 = .ok (.iconst 1, 1) := by decide +kernel
theorem d_107_184 : decode (mC 107) 184 = .ok (.goto 4, 3) := by decide +kernel
theorem d_107_188 : decode (mC 107) 188 = .ok (.ireturn, 1) := by decide +kernel
theorem mr_107 : mR 107 = some .int := by decide +kernel
theorem d_107_0 : decode (mC 107) 0 = .ok (.iload_n 0, 1) := by decide +kernel
theorem d_107_1 : decode (mC 107) 1 = .ok (.lookupswitch 188 #[(37, 115), (42, 99), (43, 91), (45, 95), (47, 103), (60, 127), (61, 149), (62, 138), (137, 174), (138, 160)], 91) := by decide +kernel
theorem d_107_116 : decode (mC 107) 116 = .ok (.iload_n 2, 1) := by decide +kernel
theorem d_107_117 : decode (mC 107) 117 = .ok (.ifCond .ne 7, 3) := by decide +kernel
theorem d_107_124 : decode (mC 107) 124 = .ok (.iload_n 1, 1) := by decide +kernel
theorem d_107_125 : decode (mC 107) 125 = .ok (.iload_n 2, 1) := by decide +kernel
theorem d_107_126 : decode (mC 107) 126 = .ok (.irem, 1) := by decide +kernel
theorem d_107_127 : decode (mC 107) 127 = .ok (.ireturn, 1) := by decide +kernel
theorem d_107_120 : decode (mC 107) 120 = .ok (.iconst 0, 1) := by decide +kernel
theorem d_107_121 : decode (mC 107) 121 = .ok (.goto 6, 3) := by decide +kernel
theorem d_107_100 : decode (mC 107) 100 = .ok (.iload_n 1, 1) := by decide +kernel
theorem d_107_101 : decode (mC 107) 101 = .ok (.iload_n 2, 1) := by decide +kernel
theorem d_107_102 : decode (mC 107) 102 = .ok (.imul, 1) := by decide +kernel
theorem d_107_103 : decode (mC 107) 103 = .ok (.ireturn, 1) := by decide +kernel
theorem d_107_92 : decode (mC 107) 92 = .ok (.iload_n 1, 1) := by decide +kernel
theorem d_107_93 : decode (mC 107) 93 = .ok (.iload_n 2, 1) := by decide +kernel
theorem d_107_94 : decode (mC 107) 94 = .ok (.iadd, 1) := by decide +kernel
theorem d_107_95 : decode (mC 107) 95 = .ok (.ireturn, 1) := by decide +kernel
theorem d_107_96 : decode (mC 107) 96 = .ok (.iload_n 1, 1) := by decide +kernel
theorem d_107_97 : decode (mC 107) 97 = .ok (.iload_n 2, 1) := by decide +kernel
theorem d_107_98 : decode (mC 107) 98 = .ok (.isub, 1) := by decide +kernel
theorem d_107_99 : decode (mC 107) 99 = .ok (.ireturn, 1) := by decide +kernel
theorem d_107_104 : decode (mC 107) 104 = .ok (.iload_n 2, 1) := by decide +kernel
theorem d_107_105 : decode (mC 107) 105 = .ok (.ifCond .ne 7, 3) := by decide +kernel
theorem d_107_112 : decode (mC 107) 112 = .ok (.iload_n 1, 1) := by decide +kernel
theorem d_107_113 : decode (mC 107) 113 = .ok (.iload_n 2, 1) := by decide +kernel
theorem d_107_114 : decode (mC 107) 114 = .ok (.idiv, 1) := by decide +kernel
theorem d_107_115 : decode (mC 107) 115 = .ok (.ireturn, 1) := by decide +kernel
theorem d_107_108 : decode (mC 107) 108 = .ok (.iconst 0, 1) := by decide +kernel
theorem d_107_109 : decode (mC 107) 109 = .ok (.goto 6, 3) := by decide +kernel
theorem d_107_128 : decode (mC 107) 128 = .ok (.iload_n 1, 1) := by decide +kernel
theorem d_107_129 : decode (mC 107) 129 = .ok (.iload_n 2, 1) := by decide +kernel
theorem d_107_130 : decode (mC 107) 130 = .ok (.if_icmp .ge 7, 3) := by decide +kernel
theorem d_107_137 : decode (mC 107) 137 = .ok (.iconst 0, 1) := by decide +kernel
theorem d_107_138 : decode (mC 107) 138 = .ok (.ireturn, 1) := by decide +kernel
theorem d_107_133 : decode (mC 107) 133 = .ok (.iconst 1, 1) := by decide +kernel
theorem d_107_134 : decode (mC 107) 134 = .ok (.goto 4, 3) := by decide +kernel
theorem d_107_150 : decode (mC 107) 150 = .ok (.iload_n 1, 1) := by decide +kernel
theorem d_107_151 : decode (mC 107) 151 = .ok (.iload_n 2, 1) := by decide +kernel
theorem d_107_152 : decode (mC 107) 152 = .ok (.if_icmp .ne 7, 3) := by decide +kernel
theorem d_107_159 : decode (mC 107) 159 = .ok (.iconst 0, 1) := by decide +kernel
theorem d_107_160 : decode (mC 107) 160 = .ok (.ireturn, 1) := by decide +kernel
theorem d_107_155 : decode (mC 107) 155 = .ok (.iconst 1, 1) := by decide +kernel
theorem d_107_156 : decode (mC 107) 156 = .ok (.goto 4, 3) := by decide +kernel
theorem d_107_139 : decode (mC 107) 139 = .ok (.iload_n 1, 1) := by decide +kernel
theorem d_107_140 : decode (mC 107) 140 = .ok (.iload_n 2, 1) := by decide +kernel
theorem d_107_141 : decode (mC 107) 141 = .ok (.if_icmp .le 7, 3) := by decide +kernel
theorem d_107_148 : decode (mC 107) 148 = .ok (.iconst 0, 1) := by decide +kernel
theorem d_107_149 : decode (mC 107) 149 = .ok (.ireturn, 1) := by decide +kernel
theorem d_107_144 : decode (mC 107) 144 = .ok (.iconst 1, 1) := by decide +kernel
theorem d_107_145 : decode (mC 107) 145 = .ok (.goto 4, 3) := by decide +kernel
theorem d_107_175 : decode (mC 107) 175 = .ok (.iload_n 1, 1) := by decide +kernel
theorem d_107_176 : decode (mC 107) 176 = .ok (.ifCond .ne 7, 3) := by decide +kernel
theorem d_107_179 : decode (mC 107) 179 = .ok (.iload_n 2, 1) := by decide +kernel
theorem d_107_180 : decode (mC 107) 180 = .ok (.ifCond .eq 7, 3) := by decide +kernel
theorem d_107_187 : decode (mC 107) 187 = .ok (.iconst 0, 1) := by decide +kernel
theorem d_107_161 : decode (mC 107) 161 = .ok (.iload_n 1, 1) := by decide +kernel
theorem d_107_162 : decode (mC 107) 162 = .ok (.ifCond .eq 11, 3) := by decide +kernel
theorem d_107_173 : decode (mC 107) 173 = .ok (.iconst 0, 1) := by decide +kernel
theorem d_107_174 : decode (mC 107) 174 = .ok (.ireturn, 1) := by decide +kernel
theorem d_107_165 : decode (mC 107) 165 = .ok (.iload_n 2, 1) := by decide +kernel
theorem d_107_166 : decode (mC 107) 166 = .ok (.ifCond .eq 7, 3) := by decide +kernel
theorem d_107_169 : decode (mC 107) 169 = .ok (.iconst 1, 1) := by decide +kernel
theorem d_107_170 : decode (mC 107) 170 = .ok (.goto 4, 3) := by decide +kernel
theorem d_107_189 : decode (mC 107) 189 = .ok (.iconst 0, 1) := by decide +kernel
theorem d_107_190 : decode (mC 107) 190 = .ok (.ireturn, 1) := by decide +kernel
theorem ml_107 : mL 107 = 3 := by decide +kernel
theorem d_105_99 : decode (mC 105) 99 = .ok (.iastore, 1) := by decide +kernel
theorem d_105_100 : decode (mC 105) 100 = .ok (.goto 38, 3) := by decide +kernel
theorem d_105_138 : decode (mC 105) 138 = .ok (.iinc 2 1, 3) := by decide +kernel
theorem ml_105 : mL 105 = 4 := by decide +kernel
theorem d_105_141 : decode (mC 105) 141 = .ok (.goto (-137), 3) := by decide +kernel
theorem d_105_58 : decode (mC 105) 58 = .ok (.iastore, 1) := by decide +kernel
theorem d_105_59 : decode (mC 105) 59 = .ok (.iinc 1 1, 3) := by decide +kernel
theorem d_105_62 : decode (mC 105) 62 = .ok (.goto 76, 3) := by decide +kernel
theorem d_105_30 : decode (mC 105) 30 = .ok (.iload_n 1, 1) := by decide +kernel
theorem d_105_31 : decode (mC 105) 31 = .ok (.aload_n 0, 1) := by decide +kernel
theorem d_105_32 : decode (mC 105) 32 = .ok (.getfield 13, 3) := by decide +kernel
theorem fk_CordLoft_Formula_13 : FK 2 "CordLoft$Formula" 13 2 2 := ⟨⟨_, rfl, by decide, List.mem_of_getElem? (i := 211) (by decide +kernel)⟩, rfl, by decide⟩
theorem cn_105 : (mN 105).cls = "CordLoft$Formula" := by decide +kernel
theorem ft_3_2 : finT 3 2 = some (2, 1) := by decide +kernel
theorem kr_3_2 {p : Nat} (h : kd0 p = 3) : kd0 (p + 2) = 20 := by
  have h1 : p < 138 := kd_138 h (by decide)
  have h2 : ∀ p, p < 138 → kd0 p = 3 → kd0 (p + 2) = 20 := by decide +kernel
  exact h2 p h1 h
theorem lr_3_2 {p : Nat} (h : kd0 p = 3) : ln0 (p + 2) = 31 := by
  have h1 : p < 138 := kd_138 h (by decide)
  have h2 : ∀ p, p < 138 → kd0 p = 3 → ln0 (p + 2) = 31 := by decide +kernel
  exact h2 p h1 h
theorem d_105_35 : decode (mC 105) 35 = .ok (.arraylength, 1) := by decide +kernel
theorem d_105_36 : decode (mC 105) 36 = .ok (.if_icmp .ge 102, 3) := by decide +kernel
theorem d_105_39 : decode (mC 105) 39 = .ok (.aload_n 0, 1) := by decide +kernel
theorem d_105_40 : decode (mC 105) 40 = .ok (.getfield 13, 3) := by decide +kernel
theorem d_105_43 : decode (mC 105) 43 = .ok (.iload_n 1, 1) := by decide +kernel
theorem d_105_44 : decode (mC 105) 44 = .ok (.iload_n 3, 1) := by decide +kernel
theorem d_105_45 : decode (mC 105) 45 = .ok (.ifCond .lt 7, 3) := by decide +kernel
theorem d_105_52 : decode (mC 105) 52 = .ok (.aload_n 0, 1) := by decide +kernel
theorem d_105_53 : decode (mC 105) 53 = .ok (.iload_n 3, 1) := by decide +kernel
theorem d_105_54 : decode (mC 105) 54 = .ok (.ineg, 1) := by decide +kernel
theorem d_105_55 : decode (mC 105) 55 = .ok (.invokevirtual 28, 3) := by decide +kernel
theorem mo_106 : MOK 106 := ⟨List.mem_of_getElem? (i := 901) (by decide +kernel), by decide +kernel, ⟨by decide +kernel, by decide +kernel⟩, List.mem_of_getElem? (i := 93) (by decide +kernel), by decide +kernel⟩
theorem m0_106 : M0K 106 := ⟨by decide +kernel, by decide +kernel⟩
theorem vk_105_28 : VK 105 28 106 1 2 := ⟨⟨List.mem_of_getElem? (i := 898) (by decide +kernel), by decide +kernel⟩, List.mem_of_getElem? (i := 900) (by decide +kernel), mo_106, m0_106, _, rfl, List.mem_of_getElem? (i := 21) (by decide +kernel), by decide⟩
theorem d_105_48 : decode (mC 105) 48 = .ok (.iload_n 3, 1) := by decide +kernel
theorem d_105_49 : decode (mC 105) 49 = .ok (.goto 9, 3) := by decide +kernel
theorem d_105_4 : decode (mC 105) 4 = .ok (.iload_n 2, 1) := by decide +kernel
theorem d_105_5 : decode (mC 105) 5 = .ok (.aload_n 0, 1) := by decide +kernel
theorem d_105_6 : decode (mC 105) 6 = .ok (.getfield 19, 3) := by decide +kernel
theorem d_105_9 : decode (mC 105) 9 = .ok (.if_icmp .ge 135, 3) := by decide +kernel
theorem d_105_12 : decode (mC 105) 12 = .ok (.aload_n 0, 1) := by decide +kernel
theorem d_105_13 : decode (mC 105) 13 = .ok (.getfield 9, 3) := by decide +kernel
theorem d_105_16 : decode (mC 105) 16 = .ok (.iload_n 2, 1) := by decide +kernel
theorem d_105_17 : decode (mC 105) 17 = .ok (.iaload, 1) := by decide +kernel
theorem d_105_18 : decode (mC 105) 18 = .ok (.istore_n 3, 1) := by decide +kernel
theorem d_105_19 : decode (mC 105) 19 = .ok (.iload_n 3, 1) := by decide +kernel
theorem d_105_20 : decode (mC 105) 20 = .ok (.ifCond .ge 10, 3) := by decide +kernel
theorem d_105_23 : decode (mC 105) 23 = .ok (.iload_n 3, 1) := by decide +kernel
theorem d_105_24 : decode (mC 105) 24 = .ok (.sipush (-140), 3) := by decide +kernel
theorem si_m140 : (Int16.ofInt (-140)).toInt32 = (-140) := by decide +kernel
theorem d_105_27 : decode (mC 105) 27 = .ok (.if_icmp .gt 38, 3) := by decide +kernel
theorem d_105_65 : decode (mC 105) 65 = .ok (.iload_n 3, 1) := by decide +kernel
theorem d_105_66 : decode (mC 105) 66 = .ok (.sipush (-139), 3) := by decide +kernel
theorem d_105_69 : decode (mC 105) 69 = .ok (.if_icmp .ne 34, 3) := by decide +kernel
theorem d_105_103 : decode (mC 105) 103 = .ok (.iload_n 1, 1) := by decide +kernel
theorem d_105_104 : decode (mC 105) 104 = .ok (.iconst 1, 1) := by decide +kernel
theorem d_105_105 : decode (mC 105) 105 = .ok (.if_icmp .le 33, 3) := by decide +kernel
theorem d_105_108 : decode (mC 105) 108 = .ok (.iinc 1 (-1), 3) := by decide +kernel
theorem d_105_111 : decode (mC 105) 111 = .ok (.aload_n 0, 1) := by decide +kernel
theorem d_105_112 : decode (mC 105) 112 = .ok (.getfield 13, 3) := by decide +kernel
theorem d_105_115 : decode (mC 105) 115 = .ok (.iload_n 1, 1) := by decide +kernel
theorem d_105_116 : decode (mC 105) 116 = .ok (.iconst 1, 1) := by decide +kernel
theorem d_105_117 : decode (mC 105) 117 = .ok (.isub, 1) := by decide +kernel
theorem d_105_118 : decode (mC 105) 118 = .ok (.iload_n 3, 1) := by decide +kernel
theorem d_105_119 : decode (mC 105) 119 = .ok (.ineg, 1) := by decide +kernel
theorem d_105_120 : decode (mC 105) 120 = .ok (.aload_n 0, 1) := by decide +kernel
theorem d_105_121 : decode (mC 105) 121 = .ok (.getfield 13, 3) := by decide +kernel
theorem d_105_124 : decode (mC 105) 124 = .ok (.iload_n 1, 1) := by decide +kernel
theorem d_105_125 : decode (mC 105) 125 = .ok (.iconst 1, 1) := by decide +kernel
theorem d_105_126 : decode (mC 105) 126 = .ok (.isub, 1) := by decide +kernel
theorem d_105_127 : decode (mC 105) 127 = .ok (.iaload, 1) := by decide +kernel
theorem d_105_128 : decode (mC 105) 128 = .ok (.aload_n 0, 1) := by decide +kernel
theorem d_105_129 : decode (mC 105) 129 = .ok (.getfield 13, 3) := by decide +kernel
theorem d_105_132 : decode (mC 105) 132 = .ok (.iload_n 1, 1) := by decide +kernel
theorem d_105_133 : decode (mC 105) 133 = .ok (.iaload, 1) := by decide +kernel
theorem d_105_134 : decode (mC 105) 134 = .ok (.invokestatic 32, 3) := by decide +kernel
theorem mo_107 : MOK 107 := ⟨List.mem_of_getElem? (i := 904) (by decide +kernel), by decide +kernel, ⟨by decide +kernel, by decide +kernel⟩, List.mem_of_getElem? (i := 93) (by decide +kernel), by decide +kernel⟩
theorem m0_107 : M0K 107 := ⟨by decide +kernel, by decide +kernel⟩
theorem sk_105_32 : SKc 105 32 107 3 := ⟨⟨List.mem_of_getElem? (i := 902) (by decide +kernel), by decide +kernel⟩, List.mem_of_getElem? (i := 903) (by decide +kernel), mo_107, m0_107⟩
theorem d_105_137 : decode (mC 105) 137 = .ok (.iastore, 1) := by decide +kernel
theorem d_105_72 : decode (mC 105) 72 = .ok (.iload_n 1, 1) := by decide +kernel
theorem d_105_73 : decode (mC 105) 73 = .ok (.ifCond .le 65, 3) := by decide +kernel
theorem d_105_76 : decode (mC 105) 76 = .ok (.aload_n 0, 1) := by decide +kernel
theorem d_105_77 : decode (mC 105) 77 = .ok (.getfield 13, 3) := by decide +kernel
theorem d_105_80 : decode (mC 105) 80 = .ok (.iload_n 1, 1) := by decide +kernel
theorem d_105_81 : decode (mC 105) 81 = .ok (.iconst 1, 1) := by decide +kernel
theorem d_105_82 : decode (mC 105) 82 = .ok (.isub, 1) := by decide +kernel
theorem d_105_83 : decode (mC 105) 83 = .ok (.aload_n 0, 1) := by decide +kernel
theorem d_105_84 : decode (mC 105) 84 = .ok (.getfield 13, 3) := by decide +kernel
theorem d_105_87 : decode (mC 105) 87 = .ok (.iload_n 1, 1) := by decide +kernel
theorem d_105_88 : decode (mC 105) 88 = .ok (.iconst 1, 1) := by decide +kernel
theorem d_105_89 : decode (mC 105) 89 = .ok (.isub, 1) := by decide +kernel
theorem d_105_90 : decode (mC 105) 90 = .ok (.iaload, 1) := by decide +kernel
theorem d_105_91 : decode (mC 105) 91 = .ok (.ifCond .ne 7, 3) := by decide +kernel
theorem d_105_98 : decode (mC 105) 98 = .ok (.iconst 0, 1) := by decide +kernel
theorem d_105_94 : decode (mC 105) 94 = .ok (.iconst 1, 1) := by decide +kernel
theorem d_105_95 : decode (mC 105) 95 = .ok (.goto 4, 3) := by decide +kernel
theorem d_105_0 : decode (mC 105) 0 = .ok (.iconst 0, 1) := by decide +kernel
theorem d_105_1 : decode (mC 105) 1 = .ok (.istore_n 1, 1) := by decide +kernel
theorem d_105_2 : decode (mC 105) 2 = .ok (.iconst 0, 1) := by decide +kernel
theorem d_105_3 : decode (mC 105) 3 = .ok (.istore_n 2, 1) := by decide +kernel
theorem d_105_144 : decode (mC 105) 144 = .ok (.iload_n 1, 1) := by decide +kernel
theorem d_105_145 : decode (mC 105) 145 = .ok (.ifCond .le 12, 3) := by decide +kernel
theorem d_105_157 : decode (mC 105) 157 = .ok (.iconst 0, 1) := by decide +kernel
theorem d_105_158 : decode (mC 105) 158 = .ok (.ireturn, 1) := by decide +kernel
theorem mr_105 : mR 105 = some .int := by decide +kernel
theorem d_105_148 : decode (mC 105) 148 = .ok (.aload_n 0, 1) := by decide +kernel
theorem d_105_149 : decode (mC 105) 149 = .ok (.getfield 13, 3) := by decide +kernel
theorem d_105_152 : decode (mC 105) 152 = .ok (.iconst 0, 1) := by decide +kernel
theorem d_105_153 : decode (mC 105) 153 = .ok (.iaload, 1) := by decide +kernel
theorem d_105_154 : decode (mC 105) 154 = .ok (.goto 4, 3) := by decide +kernel
theorem d_103_0 : decode (mC 103) 0 = .ok (.aload_n 0, 1) := by decide +kernel
theorem d_103_1 : decode (mC 103) 1 = .ok (.getfield 40, 3) := by decide +kernel
theorem cn_103 : (mN 103).cls = "CordLoft$Plan" := by decide +kernel
theorem d_103_4 : decode (mC 103) 4 = .ok (.sipush 140, 3) := by decide +kernel
theorem d_103_7 : decode (mC 103) 7 = .ok (.iload_n 2, 1) := by decide +kernel
theorem d_103_8 : decode (mC 103) 8 = .ok (.invokevirtual 93, 3) := by decide +kernel
theorem mo_104 : MOK 104 := ⟨List.mem_of_getElem? (i := 893) (by decide +kernel), by decide +kernel, ⟨by decide +kernel, by decide +kernel⟩, List.mem_of_getElem? (i := 93) (by decide +kernel), by decide +kernel⟩
theorem m0_104 : M0K 104 := ⟨by decide +kernel, by decide +kernel⟩
theorem vk_103_93 : VK 103 93 104 2 2 := ⟨⟨List.mem_of_getElem? (i := 890) (by decide +kernel), by decide +kernel⟩, List.mem_of_getElem? (i := 891) (by decide +kernel), mo_104, m0_104, _, rfl, List.mem_of_getElem? (i := 892) (by decide +kernel), by decide⟩
theorem d_103_11 : decode (mC 103) 11 = .ok (.aload_n 0, 1) := by decide +kernel
theorem d_103_12 : decode (mC 103) 12 = .ok (.getfield 40, 3) := by decide +kernel
theorem d_103_15 : decode (mC 103) 15 = .ok (.sipush 141, 3) := by decide +kernel
theorem si_141 : (Int16.ofInt 141).toInt32 = 141 := by decide +kernel
theorem d_103_18 : decode (mC 103) 18 = .ok (.iload_n 3, 1) := by decide +kernel
theorem d_103_19 : decode (mC 103) 19 = .ok (.invokevirtual 93, 3) := by decide +kernel
theorem d_103_22 : decode (mC 103) 22 = .ok (.aload_n 0, 1) := by decide +kernel
theorem d_103_23 : decode (mC 103) 23 = .ok (.getfield 40, 3) := by decide +kernel
theorem d_103_26 : decode (mC 103) 26 = .ok (.sipush 142, 3) := by decide +kernel
theorem si_142 : (Int16.ofInt 142).toInt32 = 142 := by decide +kernel
theorem d_103_29 : decode (mC 103) 29 = .ok (.aload_n 0, 1) := by decide +kernel
theorem d_103_30 : decode (mC 103) 30 = .ok (.getfield 19, 3) := by decide +kernel
theorem d_103_33 : decode (mC 103) 33 = .ok (.iload_n 1, 1) := by decide +kernel
theorem d_103_34 : decode (mC 103) 34 = .ok (.iaload, 1) := by decide +kernel
theorem d_103_35 : decode (mC 103) 35 = .ok (.invokestatic 81, 3) := by decide +kernel
theorem sk_103_81 : SKc 103 81 92 1 := ⟨⟨List.mem_of_getElem? (i := 885) (by decide +kernel), by decide +kernel⟩, List.mem_of_getElem? (i := 840) (by decide +kernel), mo_92, m0_92⟩
theorem d_103_38 : decode (mC 103) 38 = .ok (.invokevirtual 93, 3) := by decide +kernel
theorem d_103_41 : decode (mC 103) 41 = .ok (.aload_n 0, 1) := by decide +kernel
theorem d_103_42 : decode (mC 103) 42 = .ok (.getfield 40, 3) := by decide +kernel
theorem d_103_45 : decode (mC 103) 45 = .ok (.sipush 143, 3) := by decide +kernel
theorem si_143 : (Int16.ofInt 143).toInt32 = 143 := by decide +kernel
theorem d_103_48 : decode (mC 103) 48 = .ok (.iload_n 1, 1) := by decide +kernel
theorem d_103_49 : decode (mC 103) 49 = .ok (.invokevirtual 93, 3) := by decide +kernel
theorem d_103_52 : decode (mC 103) 52 = .ok (.aload_n 0, 1) := by decide +kernel
theorem d_103_53 : decode (mC 103) 53 = .ok (.getfield 40, 3) := by decide +kernel
theorem d_103_56 : decode (mC 103) 56 = .ok (.sipush 144, 3) := by decide +kernel
theorem d_103_59 : decode (mC 103) 59 = .ok (.aload_n 0, 1) := by decide +kernel
theorem d_103_60 : decode (mC 103) 60 = .ok (.getfield 15, 3) := by decide +kernel
theorem d_103_63 : decode (mC 103) 63 = .ok (.iload_n 1, 1) := by decide +kernel
theorem d_103_64 : decode (mC 103) 64 = .ok (.iaload, 1) := by decide +kernel
theorem d_103_65 : decode (mC 103) 65 = .ok (.invokevirtual 93, 3) := by decide +kernel
theorem d_103_68 : decode (mC 103) 68 = .ok (.aload_n 0, 1) := by decide +kernel
theorem d_103_69 : decode (mC 103) 69 = .ok (.getfield 40, 3) := by decide +kernel
theorem d_103_72 : decode (mC 103) 72 = .ok (.sipush 145, 3) := by decide +kernel
theorem d_103_75 : decode (mC 103) 75 = .ok (.iload 4, 2) := by decide +kernel
theorem d_103_77 : decode (mC 103) 77 = .ok (.invokevirtual 93, 3) := by decide +kernel
theorem d_103_80 : decode (mC 103) 80 = .ok (.aload_n 0, 1) := by decide +kernel
theorem d_103_81 : decode (mC 103) 81 = .ok (.getfield 40, 3) := by decide +kernel
theorem d_103_84 : decode (mC 103) 84 = .ok (.invokevirtual 97, 3) := by decide +kernel
theorem mo_105 : MOK 105 := ⟨List.mem_of_getElem? (i := 897) (by decide +kernel), by decide +kernel, ⟨by decide +kernel, by decide +kernel⟩, List.mem_of_getElem? (i := 93) (by decide +kernel), by decide +kernel⟩
theorem m0_105 : M0K 105 := ⟨by decide +kernel, by decide +kernel⟩
theorem vk_103_97 : VK 103 97 105 0 2 := ⟨⟨List.mem_of_getElem? (i := 894) (by decide +kernel), by decide +kernel⟩, List.mem_of_getElem? (i := 895) (by decide +kernel), mo_105, m0_105, _, rfl, List.mem_of_getElem? (i := 896) (by decide +kernel), by decide⟩
theorem d_103_87 : decode (mC 103) 87 = .ok (.ireturn, 1) := by decide +kernel
theorem mr_103 : mR 103 = some .int := by decide +kernel
theorem ml_103 : mL 103 = 5 := by decide +kernel
theorem d_101_108 : decode (mC 101) 108 = .ok (.aload_n 0, 1) := by decide +kernel
theorem d_101_109 : decode (mC 101) 109 = .ok (.getfield 47, 3) := by decide +kernel
theorem fk_CordLoft_Plan_47 : FK 2 "CordLoft$Plan" 47 4 13 := ⟨⟨_, rfl, by decide, List.mem_of_getElem? (i := 267) (by decide +kernel)⟩, rfl, by decide⟩
theorem cn_101 : (mN 101).cls = "CordLoft$Plan" := by decide +kernel
theorem ft_5_13 : finT 5 13 = some (14, 1) := by decide +kernel
theorem kr_5_14 {p : Nat} (h : kd0 p = 5) : kd0 (p + 14) = 23 := by
  have h1 : p < 138 := kd_138 h (by decide)
  have h2 : ∀ p, p < 138 → kd0 p = 5 → kd0 (p + 14) = 23 := by decide +kernel
  exact h2 p h1 h
theorem lr_5_14 {p : Nat} (h : kd0 p = 5) : ln0 (p + 14) = 128 := by
  have h1 : p < 138 := kd_138 h (by decide)
  have h2 : ∀ p, p < 138 → kd0 p = 5 → ln0 (p + 14) = 128 := by decide +kernel
  exact h2 p h1 h
theorem d_101_112 : decode (mC 101) 112 = .ok (.iload 7, 2) := by decide +kernel
theorem d_101_114 : decode (mC 101) 114 = .ok (.baload, 1) := by decide +kernel
theorem d_101_115 : decode (mC 101) 115 = .ok (.ifCond .eq 10, 3) := by decide +kernel
theorem d_101_125 : decode (mC 101) 125 = .ok (.iinc 4 1, 3) := by decide +kernel
theorem ml_101 : mL 101 = 8 := by decide +kernel
theorem d_101_128 : decode (mC 101) 128 = .ok (.goto (-111), 3) := by decide +kernel
theorem d_101_118 : decode (mC 101) 118 = .ok (.iload_n 3, 1) := by decide +kernel
theorem d_101_119 : decode (mC 101) 119 = .ok (.iconst 1, 1) := by decide +kernel
theorem d_101_120 : decode (mC 101) 120 = .ok (.iload 4, 2) := by decide +kernel
theorem d_101_122 : decode (mC 101) 122 = .ok (.ishl, 1) := by decide +kernel
theorem d_101_123 : decode (mC 101) 123 = .ok (.ixor, 1) := by decide +kernel
theorem d_101_124 : decode (mC 101) 124 = .ok (.istore_n 3, 1) := by decide +kernel
theorem d_101_107 : decode (mC 101) 107 = .ok (.bastore, 1) := by decide +kernel
theorem d_101_17 : decode (mC 101) 17 = .ok (.iload 4, 2) := by decide +kernel
theorem d_101_19 : decode (mC 101) 19 = .ok (.aload_n 0, 1) := by decide +kernel
theorem d_101_20 : decode (mC 101) 20 = .ok (.getfield 51, 3) := by decide +kernel
