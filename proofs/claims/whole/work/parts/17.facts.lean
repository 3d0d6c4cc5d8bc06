theorem d_289_1 : decode (mC 289) 1 = .ok (.iconst 0, 1) := by decide +kernel
theorem d_289_2 : decode (mC 289) 2 = .ok (.putfield 396, 3) := by decide +kernel
theorem d_289_5 : decode (mC 289) 5 = .ok (.aload_n 0, 1) := by decide +kernel
theorem d_289_6 : decode (mC 289) 6 = .ok (.iload_n 1, 1) := by decide +kernel
theorem d_289_7 : decode (mC 289) 7 = .ok (.invokevirtual 438, 3) := by decide +kernel
theorem vk_289_438 : VK 289 438 266 1 12 := ⟨⟨List.mem_of_getElem? (i := 1778) (by decide +kernel), by decide +kernel⟩, List.mem_of_getElem? (i := 1780) (by decide +kernel), mo_266, m0_266, _, rfl, List.mem_of_getElem? (i := 71) (by decide +kernel), by decide⟩
theorem d_289_10 : decode (mC 289) 10 = .ok (.ifCond .ne 5, 3) := by decide +kernel
theorem d_289_15 : decode (mC 289) 15 = .ok (.aload_n 0, 1) := by decide +kernel
theorem d_289_16 : decode (mC 289) 16 = .ok (.iload_n 1, 1) := by decide +kernel
theorem d_289_17 : decode (mC 289) 17 = .ok (.invokevirtual 467, 3) := by decide +kernel
theorem mo_290 : MOK 290 := ⟨List.mem_of_getElem? (i := 1877) (by decide +kernel), by decide +kernel, ⟨by decide +kernel, by decide +kernel⟩, List.mem_of_getElem? (i := 100) (by decide +kernel), by decide +kernel⟩
theorem m0_290 : M0K 290 := ⟨by decide +kernel, by decide +kernel⟩
theorem vk_289_467 : VK 289 467 290 1 12 := ⟨⟨List.mem_of_getElem? (i := 1874) (by decide +kernel), by decide +kernel⟩, List.mem_of_getElem? (i := 1876) (by decide +kernel), mo_290, m0_290, _, rfl, List.mem_of_getElem? (i := 81) (by decide +kernel), by decide⟩
theorem d_289_20 : decode (mC 289) 20 = .ok (.aload_n 0, 1) := by decide +kernel
theorem d_289_21 : decode (mC 289) 21 = .ok (.getfield 66, 3) := by decide +kernel
theorem d_289_24 : decode (mC 289) 24 = .ok (.iconst 0, 1) := by decide +kernel
theorem d_289_25 : decode (mC 289) 25 = .ok (.iaload, 1) := by decide +kernel
theorem d_289_26 : decode (mC 289) 26 = .ok (.istore_n 2, 1) := by decide +kernel
theorem d_289_27 : decode (mC 289) 27 = .ok (.aload_n 0, 1) := by decide +kernel
theorem d_289_28 : decode (mC 289) 28 = .ok (.getfield 79, 3) := by decide +kernel
theorem d_289_31 : decode (mC 289) 31 = .ok (.iload_n 2, 1) := by decide +kernel
theorem d_289_32 : decode (mC 289) 32 = .ok (.iaload, 1) := by decide +kernel
theorem d_289_33 : decode (mC 289) 33 = .ok (.ldc_w 466, 3) := by decide +kernel
theorem d_289_36 : decode (mC 289) 36 = .ok (.if_icmp .ne 5, 3) := by decide +kernel
theorem d_289_136 : decode (mC 289) 136 = .ok (.aload_n 0, 1) := by decide +kernel
theorem d_289_137 : decode (mC 289) 137 = .ok (.getfield 396, 3) := by decide +kernel
theorem d_289_140 : decode (mC 289) 140 = .ok (.ireturn, 1) := by decide +kernel
theorem mr_289 : mR 289 = some .int := by decide +kernel
theorem d_289_39 : decode (mC 289) 39 = .ok (.iconst (-1), 1) := by decide +kernel
theorem d_289_40 : decode (mC 289) 40 = .ok (.ireturn, 1) := by decide +kernel
theorem d_289_13 : decode (mC 289) 13 = .ok (.iconst (-1), 1) := by decide +kernel
theorem d_289_14 : decode (mC 289) 14 = .ok (.ireturn, 1) := by decide +kernel
theorem d_291_0 : decode (mC 291) 0 = .ok (.aload_n 0, 1) := by decide +kernel
theorem d_291_1 : decode (mC 291) 1 = .ok (.iload_n 1, 1) := by decide +kernel
theorem d_291_2 : decode (mC 291) 2 = .ok (.invokevirtual 438, 3) := by decide +kernel
theorem vk_291_438 : VK 291 438 266 1 12 := ⟨⟨List.mem_of_getElem? (i := 1778) (by decide +kernel), by decide +kernel⟩, List.mem_of_getElem? (i := 1780) (by decide +kernel), mo_266, m0_266, _, rfl, List.mem_of_getElem? (i := 71) (by decide +kernel), by decide⟩
theorem d_291_5 : decode (mC 291) 5 = .ok (.ifCond .ne 5, 3) := by decide +kernel
theorem d_291_10 : decode (mC 291) 10 = .ok (.aload_n 0, 1) := by decide +kernel
theorem d_291_11 : decode (mC 291) 11 = .ok (.iload_n 1, 1) := by decide +kernel
theorem d_291_12 : decode (mC 291) 12 = .ok (.invokevirtual 467, 3) := by decide +kernel
theorem vk_291_467 : VK 291 467 290 1 12 := ⟨⟨List.mem_of_getElem? (i := 1874) (by decide +kernel), by decide +kernel⟩, List.mem_of_getElem? (i := 1876) (by decide +kernel), mo_290, m0_290, _, rfl, List.mem_of_getElem? (i := 81) (by decide +kernel), by decide⟩
theorem d_291_15 : decode (mC 291) 15 = .ok (.aload_n 0, 1) := by decide +kernel
theorem d_291_16 : decode (mC 291) 16 = .ok (.getfield 82, 3) := by decide +kernel
theorem cn_291 : (mN 291).cls = "CordLoftModel" := by decide +kernel
theorem d_291_19 : decode (mC 291) 19 = .ok (.aload_n 0, 1) := by decide +kernel
theorem d_291_20 : decode (mC 291) 20 = .ok (.getfield 66, 3) := by decide +kernel
theorem d_291_23 : decode (mC 291) 23 = .ok (.iconst 0, 1) := by decide +kernel
theorem d_291_24 : decode (mC 291) 24 = .ok (.iaload, 1) := by decide +kernel
theorem d_291_25 : decode (mC 291) 25 = .ok (.iaload, 1) := by decide +kernel
theorem d_291_26 : decode (mC 291) 26 = .ok (.ireturn, 1) := by decide +kernel
theorem mr_291 : mR 291 = some .int := by decide +kernel
theorem d_291_8 : decode (mC 291) 8 = .ok (.iconst 0, 1) := by decide +kernel
theorem d_291_9 : decode (mC 291) 9 = .ok (.ireturn, 1) := by decide +kernel
theorem ml_291 : mL 291 = 2 := by decide +kernel
theorem d_293_124 : decode (mC 293) 124 = .ok (.aload_n 0, 1) := by decide +kernel
theorem d_293_125 : decode (mC 293) 125 = .ok (.getfield 85, 3) := by decide +kernel
theorem fk_CordLoftModel_85 : FK 2 "CordLoftModel" 85 12 60 := ⟨⟨_, rfl, by decide, List.mem_of_getElem? (i := 1351) (by decide +kernel)⟩, rfl, by decide⟩
theorem cn_293 : (mN 293).cls = "CordLoftModel" := by decide +kernel
theorem ft_13_60 : finT 13 60 = some (129, 0) := by decide +kernel
theorem k_129 : kd0 129 = 20 := by decide +kernel
theorem l_129 : ln0 129 = 256 := by decide +kernel
theorem d_293_128 : decode (mC 293) 128 = .ok (.iload_n 2, 1) := by decide +kernel
theorem d_293_129 : decode (mC 293) 129 = .ok (.iload 5, 2) := by decide +kernel
theorem d_293_131 : decode (mC 293) 131 = .ok (.iastore, 1) := by decide +kernel
theorem d_293_132 : decode (mC 293) 132 = .ok (.aload_n 0, 1) := by decide +kernel
theorem d_293_133 : decode (mC 293) 133 = .ok (.getfield 88, 3) := by decide +kernel
theorem fk_CordLoftModel_88 : FK 2 "CordLoftModel" 88 12 61 := ⟨⟨_, rfl, by decide, List.mem_of_getElem? (i := 1352) (by decide +kernel)⟩, rfl, by decide⟩
theorem ft_13_61 : finT 13 61 = some (130, 0) := by decide +kernel
theorem k_130 : kd0 130 = 20 := by decide +kernel
theorem l_130 : ln0 130 = 256 := by decide +kernel
theorem d_293_136 : decode (mC 293) 136 = .ok (.iload_n 2, 1) := by decide +kernel
theorem d_293_137 : decode (mC 293) 137 = .ok (.iload_n 3, 1) := by decide +kernel
theorem d_293_138 : decode (mC 293) 138 = .ok (.iastore, 1) := by decide +kernel
theorem d_293_139 : decode (mC 293) 139 = .ok (.iinc 3 1, 3) := by decide +kernel
theorem ml_293 : mL 293 = 6 := by decide +kernel
theorem d_293_142 : decode (mC 293) 142 = .ok (.goto (-104), 3) := by decide +kernel
theorem d_293_99 : decode (mC 293) 99 = .ok (.istore 5, 2) := by decide +kernel
theorem d_293_101 : decode (mC 293) 101 = .ok (.aload_n 0, 1) := by decide +kernel
theorem d_293_102 : decode (mC 293) 102 = .ok (.getfield 88, 3) := by decide +kernel
theorem d_293_105 : decode (mC 293) 105 = .ok (.iload_n 2, 1) := by decide +kernel
theorem d_293_106 : decode (mC 293) 106 = .ok (.iaload, 1) := by decide +kernel
theorem d_293_107 : decode (mC 293) 107 = .ok (.ifCond .lt 17, 3) := by decide +kernel
theorem d_293_110 : decode (mC 293) 110 = .ok (.iload 5, 2) := by decide +kernel
theorem d_293_112 : decode (mC 293) 112 = .ok (.aload_n 0, 1) := by decide +kernel
theorem d_293_113 : decode (mC 293) 113 = .ok (.getfield 85, 3) := by decide +kernel
theorem d_293_116 : decode (mC 293) 116 = .ok (.iload_n 2, 1) := by decide +kernel
theorem d_293_117 : decode (mC 293) 117 = .ok (.iaload, 1) := by decide +kernel
theorem d_293_118 : decode (mC 293) 118 = .ok (.if_icmp .gt 6, 3) := by decide +kernel
theorem d_293_121 : decode (mC 293) 121 = .ok (.goto 18, 3) := by decide +kernel
theorem d_293_38 : decode (mC 293) 38 = .ok (.iload_n 3, 1) := by decide +kernel
theorem d_293_39 : decode (mC 293) 39 = .ok (.aload_n 0, 1) := by decide +kernel
theorem d_293_40 : decode (mC 293) 40 = .ok (.getfield 369, 3) := by decide +kernel
theorem d_293_43 : decode (mC 293) 43 = .ok (.if_icmp .ge 102, 3) := by decide +kernel
theorem d_293_46 : decode (mC 293) 46 = .ok (.iload_n 2, 1) := by decide +kernel
theorem d_293_47 : decode (mC 293) 47 = .ok (.iconst 1, 1) := by decide +kernel
theorem d_293_48 : decode (mC 293) 48 = .ok (.iload_n 3, 1) := by decide +kernel
theorem d_293_49 : decode (mC 293) 49 = .ok (.ishl, 1) := by decide +kernel
theorem d_293_50 : decode (mC 293) 50 = .ok (.ior, 1) := by decide +kernel
theorem d_293_51 : decode (mC 293) 51 = .ok (.istore 4, 2) := by decide +kernel
theorem d_293_53 : decode (mC 293) 53 = .ok (.iload 4, 2) := by decide +kernel
theorem d_293_55 : decode (mC 293) 55 = .ok (.iload_n 2, 1) := by decide +kernel
theorem d_293_56 : decode (mC 293) 56 = .ok (.if_icmp .eq 83, 3) := by decide +kernel
theorem d_293_59 : decode (mC 293) 59 = .ok (.iload 4, 2) := by decide +kernel
theorem d_293_61 : decode (mC 293) 61 = .ok (.iload_n 1, 1) := by decide +kernel
theorem d_293_62 : decode (mC 293) 62 = .ok (.invokestatic 432, 3) := by decide +kernel
theorem sk_293_432 : SKc 293 432 269 2 := ⟨⟨List.mem_of_getElem? (i := 1790) (by decide +kernel), by decide +kernel⟩, List.mem_of_getElem? (i := 1791) (by decide +kernel), mo_269, m0_269⟩
theorem d_293_65 : decode (mC 293) 65 = .ok (.ifCond .ne 6, 3) := by decide +kernel
theorem d_293_71 : decode (mC 293) 71 = .ok (.aload_n 0, 1) := by decide +kernel
theorem d_293_72 : decode (mC 293) 72 = .ok (.getfield 66, 3) := by decide +kernel
theorem d_293_75 : decode (mC 293) 75 = .ok (.iconst 0, 1) := by decide +kernel
theorem d_293_76 : decode (mC 293) 76 = .ok (.iaload, 1) := by decide +kernel
theorem d_293_77 : decode (mC 293) 77 = .ok (.aload_n 0, 1) := by decide +kernel
theorem d_293_78 : decode (mC 293) 78 = .ok (.iload 4, 2) := by decide +kernel
theorem d_293_80 : decode (mC 293) 80 = .ok (.invokevirtual 435, 3) := by decide +kernel
theorem vk_293_435 : VK 293 435 270 1 12 := ⟨⟨List.mem_of_getElem? (i := 1793) (by decide +kernel), by decide +kernel⟩, List.mem_of_getElem? (i := 1795) (by decide +kernel), mo_270, m0_270, _, rfl, List.mem_of_getElem? (i := 74) (by decide +kernel), by decide⟩
theorem d_293_83 : decode (mC 293) 83 = .ok (.ixor, 1) := by decide +kernel
theorem d_293_84 : decode (mC 293) 84 = .ok (.ifCond .ne 7, 3) := by decide +kernel
theorem d_293_91 : decode (mC 293) 91 = .ok (.aload_n 0, 1) := by decide +kernel
theorem d_293_92 : decode (mC 293) 92 = .ok (.getfield 85, 3) := by decide +kernel
theorem d_293_95 : decode (mC 293) 95 = .ok (.iload 4, 2) := by decide +kernel
theorem d_293_97 : decode (mC 293) 97 = .ok (.iaload, 1) := by decide +kernel
theorem d_293_98 : decode (mC 293) 98 = .ok (.ineg, 1) := by decide +kernel
theorem d_293_87 : decode (mC 293) 87 = .ok (.iconst 1, 1) := by decide +kernel
theorem d_293_88 : decode (mC 293) 88 = .ok (.goto 11, 3) := by decide +kernel
theorem d_293_68 : decode (mC 293) 68 = .ok (.goto 71, 3) := by decide +kernel
theorem d_293_7 : decode (mC 293) 7 = .ok (.iload_n 2, 1) := by decide +kernel
theorem d_293_8 : decode (mC 293) 8 = .ok (.ifCond .lt 143, 3) := by decide +kernel
theorem d_293_11 : decode (mC 293) 11 = .ok (.iload_n 2, 1) := by decide +kernel
theorem d_293_12 : decode (mC 293) 12 = .ok (.iload_n 1, 1) := by decide +kernel
theorem d_293_13 : decode (mC 293) 13 = .ok (.invokestatic 432, 3) := by decide +kernel
theorem d_293_16 : decode (mC 293) 16 = .ok (.ifCond .ne 6, 3) := by decide +kernel
theorem d_293_22 : decode (mC 293) 22 = .ok (.aload_n 0, 1) := by decide +kernel
theorem d_293_23 : decode (mC 293) 23 = .ok (.getfield 85, 3) := by decide +kernel
theorem d_293_26 : decode (mC 293) 26 = .ok (.iload_n 2, 1) := by decide +kernel
theorem d_293_27 : decode (mC 293) 27 = .ok (.iconst 0, 1) := by decide +kernel
theorem d_293_28 : decode (mC 293) 28 = .ok (.iastore, 1) := by decide +kernel
theorem d_293_29 : decode (mC 293) 29 = .ok (.aload_n 0, 1) := by decide +kernel
theorem d_293_30 : decode (mC 293) 30 = .ok (.getfield 88, 3) := by decide +kernel
theorem d_293_33 : decode (mC 293) 33 = .ok (.iload_n 2, 1) := by decide +kernel
theorem d_293_34 : decode (mC 293) 34 = .ok (.iconst (-1), 1) := by decide +kernel
theorem d_293_35 : decode (mC 293) 35 = .ok (.iastore, 1) := by decide +kernel
theorem d_293_36 : decode (mC 293) 36 = .ok (.iconst 0, 1) := by decide +kernel
theorem d_293_37 : decode (mC 293) 37 = .ok (.istore_n 3, 1) := by decide +kernel
theorem d_293_145 : decode (mC 293) 145 = .ok (.iinc 2 (-1), 3) := by decide +kernel
theorem d_293_148 : decode (mC 293) 148 = .ok (.goto (-141), 3) := by decide +kernel
theorem d_293_19 : decode (mC 293) 19 = .ok (.goto 126, 3) := by decide +kernel
theorem d_293_0 : decode (mC 293) 0 = .ok (.aload_n 0, 1) := by decide +kernel
theorem d_293_1 : decode (mC 293) 1 = .ok (.invokevirtual 429, 3) := by decide +kernel
theorem vk_293_429 : VK 293 429 268 0 12 := ⟨⟨List.mem_of_getElem? (i := 1786) (by decide +kernel), by decide +kernel⟩, List.mem_of_getElem? (i := 1788) (by decide +kernel), mo_268, m0_268, _, rfl, List.mem_of_getElem? (i := 73) (by decide +kernel), by decide⟩
theorem d_293_4 : decode (mC 293) 4 = .ok (.istore_n 1, 1) := by decide +kernel
theorem d_293_5 : decode (mC 293) 5 = .ok (.iload_n 1, 1) := by decide +kernel
theorem d_293_6 : decode (mC 293) 6 = .ok (.istore_n 2, 1) := by decide +kernel
theorem d_293_151 : decode (mC 293) 151 = .ok (.return_, 1) := by decide +kernel
theorem mr_293 : mR 293 = none := by decide +kernel
theorem d_292_0 : decode (mC 292) 0 = .ok (.aload_n 0, 1) := by decide +kernel
theorem d_292_1 : decode (mC 292) 1 = .ok (.invokevirtual 470, 3) := by decide +kernel
theorem mo_293 : MOK 293 := ⟨List.mem_of_getElem? (i := 1890) (by decide +kernel), by decide +kernel, ⟨by decide +kernel, by decide +kernel⟩, List.mem_of_getElem? (i := 100) (by decide +kernel), by decide +kernel⟩
theorem m0_293 : M0K 293 := ⟨by decide +kernel, by decide +kernel⟩
theorem vk_292_470 : VK 292 470 293 0 12 := ⟨⟨List.mem_of_getElem? (i := 1887) (by decide +kernel), by decide +kernel⟩, List.mem_of_getElem? (i := 1889) (by decide +kernel), mo_293, m0_293, _, rfl, List.mem_of_getElem? (i := 82) (by decide +kernel), by decide⟩
theorem d_292_4 : decode (mC 292) 4 = .ok (.iload_n 1, 1) := by decide +kernel
theorem d_292_5 : decode (mC 292) 5 = .ok (.ifCond .ne 12, 3) := by decide +kernel
theorem d_292_17 : decode (mC 292) 17 = .ok (.iload_n 1, 1) := by decide +kernel
theorem d_292_18 : decode (mC 292) 18 = .ok (.iconst 1, 1) := by decide +kernel
theorem d_292_19 : decode (mC 292) 19 = .ok (.if_icmp .ne 12, 3) := by decide +kernel
theorem d_292_31 : decode (mC 292) 31 = .ok (.iconst (-1), 1) := by decide +kernel
theorem d_292_32 : decode (mC 292) 32 = .ok (.ireturn, 1) := by decide +kernel
theorem mr_292 : mR 292 = some .int := by decide +kernel
theorem d_292_22 : decode (mC 292) 22 = .ok (.aload_n 0, 1) := by decide +kernel
theorem d_292_23 : decode (mC 292) 23 = .ok (.getfield 88, 3) := by decide +kernel
theorem cn_292 : (mN 292).cls = "CordLoftModel" := by decide +kernel
theorem d_292_26 : decode (mC 292) 26 = .ok (.iconst 0, 1) := by decide +kernel
theorem d_292_27 : decode (mC 292) 27 = .ok (.iaload, 1) := by decide +kernel
theorem d_292_28 : decode (mC 292) 28 = .ok (.goto 4, 3) := by decide +kernel
theorem d_292_8 : decode (mC 292) 8 = .ok (.aload_n 0, 1) := by decide +kernel
theorem d_292_9 : decode (mC 292) 9 = .ok (.getfield 85, 3) := by decide +kernel
theorem d_292_12 : decode (mC 292) 12 = .ok (.iconst 0, 1) := by decide +kernel
theorem d_292_13 : decode (mC 292) 13 = .ok (.iaload, 1) := by decide +kernel
theorem d_292_14 : decode (mC 292) 14 = .ok (.goto 18, 3) := by decide +kernel
theorem ml_292 : mL 292 = 2 := by decide +kernel
theorem d_294_42 : decode (mC 294) 42 = .ok (.iload_n 3, 1) := by decide +kernel
theorem d_294_43 : decode (mC 294) 43 = .ok (.sipush 300, 3) := by decide +kernel
theorem d_294_46 : decode (mC 294) 46 = .ok (.if_icmp .gt 54, 3) := by decide +kernel
theorem d_294_49 : decode (mC 294) 49 = .ok (.aload_n 0, 1) := by decide +kernel
theorem d_294_50 : decode (mC 294) 50 = .ok (.getfield 91, 3) := by decide +kernel
theorem fk_CordLoftModel_91 : FK 2 "CordLoftModel" 91 12 62 := ⟨⟨_, rfl, by decide, List.mem_of_getElem? (i := 1353) (by decide +kernel)⟩, rfl, by decide⟩
theorem cn_294 : (mN 294).cls = "CordLoftModel" := by decide +kernel
theorem ft_13_62 : finT 13 62 = some (131, 0) := by decide +kernel
theorem k_131 : kd0 131 = 20 := by decide +kernel
theorem l_131 : ln0 131 = 256 := by decide +kernel
theorem d_294_53 : decode (mC 294) 53 = .ok (.iload_n 2, 1) := by decide +kernel
theorem d_294_54 : decode (mC 294) 54 = .ok (.iaload, 1) := by decide +kernel
theorem d_294_55 : decode (mC 294) 55 = .ok (.ifCond .lt 18, 3) := by decide +kernel
theorem d_294_73 : decode (mC 294) 73 = .ok (.aload_n 0, 1) := by decide +kernel
theorem d_294_74 : decode (mC 294) 74 = .ok (.getfield 91, 3) := by decide +kernel
theorem d_294_77 : decode (mC 294) 77 = .ok (.iload_n 2, 1) := by decide +kernel
theorem d_294_78 : decode (mC 294) 78 = .ok (.iload_n 3, 1) := by decide +kernel
theorem d_294_79 : decode (mC 294) 79 = .ok (.iastore, 1) := by decide +kernel
theorem d_294_80 : decode (mC 294) 80 = .ok (.aload_n 0, 1) := by decide +kernel
theorem d_294_81 : decode (mC 294) 81 = .ok (.iload_n 2, 1) := by decide +kernel
theorem d_294_82 : decode (mC 294) 82 = .ok (.aload_n 0, 1) := by decide +kernel
theorem d_294_83 : decode (mC 294) 83 = .ok (.getfield 66, 3) := by decide +kernel
theorem d_294_86 : decode (mC 294) 86 = .ok (.iconst 3, 1) := by decide +kernel
theorem d_294_87 : decode (mC 294) 87 = .ok (.iaload, 1) := by decide +kernel
theorem d_294_88 : decode (mC 294) 88 = .ok (.iload_n 3, 1) := by decide +kernel
theorem d_294_89 : decode (mC 294) 89 = .ok (.iadd, 1) := by decide +kernel
theorem d_294_90 : decode (mC 294) 90 = .ok (.invokevirtual 417, 3) := by decide +kernel
theorem vk_294_417 : VK 294 417 257 2 12 := ⟨⟨List.mem_of_getElem? (i := 1744) (by decide +kernel), by decide +kernel⟩, List.mem_of_getElem? (i := 1746) (by decide +kernel), mo_257, m0_257, _, rfl, List.mem_of_getElem? (i := 68) (by decide +kernel), by decide⟩
theorem d_294_93 : decode (mC 294) 93 = .ok (.istore_n 2, 1) := by decide +kernel
theorem ml_294 : mL 294 = 4 := by decide +kernel
theorem d_294_94 : decode (mC 294) 94 = .ok (.iinc 3 1, 3) := by decide +kernel
theorem d_294_97 : decode (mC 294) 97 = .ok (.goto (-55), 3) := by decide +kernel
theorem d_294_58 : decode (mC 294) 58 = .ok (.iload_n 1, 1) := by decide +kernel
theorem d_294_59 : decode (mC 294) 59 = .ok (.ifCond .ne 7, 3) := by decide +kernel
theorem d_294_66 : decode (mC 294) 66 = .ok (.aload_n 0, 1) := by decide +kernel
theorem d_294_67 : decode (mC 294) 67 = .ok (.getfield 91, 3) := by decide +kernel
theorem d_294_70 : decode (mC 294) 70 = .ok (.iload_n 2, 1) := by decide +kernel
theorem d_294_71 : decode (mC 294) 71 = .ok (.iaload, 1) := by decide +kernel
theorem d_294_72 : decode (mC 294) 72 = .ok (.ireturn, 1) := by decide +kernel
theorem mr_294 : mR 294 = some .int := by decide +kernel
theorem d_294_62 : decode (mC 294) 62 = .ok (.iload_n 3, 1) := by decide +kernel
theorem d_294_63 : decode (mC 294) 63 = .ok (.goto 9, 3) := by decide +kernel
theorem d_294_13 : decode (mC 294) 13 = .ok (.iload_n 2, 1) := by decide +kernel
theorem d_294_14 : decode (mC 294) 14 = .ok (.sipush 256, 3) := by decide +kernel
theorem d_294_17 : decode (mC 294) 17 = .ok (.if_icmp .ge 16, 3) := by decide +kernel
theorem d_294_20 : decode (mC 294) 20 = .ok (.aload_n 0, 1) := by decide +kernel
theorem d_294_21 : decode (mC 294) 21 = .ok (.getfield 91, 3) := by decide +kernel
theorem d_294_24 : decode (mC 294) 24 = .ok (.iload_n 2, 1) := by decide +kernel
theorem d_294_25 : decode (mC 294) 25 = .ok (.iconst (-1), 1) := by decide +kernel
theorem d_294_26 : decode (mC 294) 26 = .ok (.iastore, 1) := by decide +kernel
theorem d_294_27 : decode (mC 294) 27 = .ok (.iinc 2 1, 3) := by decide +kernel
theorem d_294_30 : decode (mC 294) 30 = .ok (.goto (-17), 3) := by decide +kernel
theorem d_294_0 : decode (mC 294) 0 = .ok (.iload_n 1, 1) := by decide +kernel
theorem d_294_1 : decode (mC 294) 1 = .ok (.iconst 0, 1) := by decide +kernel
theorem d_294_2 : decode (mC 294) 2 = .ok (.iconst 1, 1) := by decide +kernel
theorem d_294_3 : decode (mC 294) 3 = .ok (.invokestatic 399, 3) := by decide +kernel
theorem sk_294_399 : SKc 294 399 243 3 := ⟨⟨List.mem_of_getElem? (i := 1690) (by decide +kernel), by decide +kernel⟩, List.mem_of_getElem? (i := 1691) (by decide +kernel), mo_243, m0_243⟩
theorem d_294_6 : decode (mC 294) 6 = .ok (.ifCond .ne 5, 3) := by decide +kernel
theorem d_294_11 : decode (mC 294) 11 = .ok (.iconst 0, 1) := by decide +kernel
theorem d_294_12 : decode (mC 294) 12 = .ok (.istore_n 2, 1) := by decide +kernel
theorem d_294_33 : decode (mC 294) 33 = .ok (.aload_n 0, 1) := by decide +kernel
theorem d_294_34 : decode (mC 294) 34 = .ok (.getfield 66, 3) := by decide +kernel
theorem d_294_37 : decode (mC 294) 37 = .ok (.iconst 0, 1) := by decide +kernel
theorem d_294_38 : decode (mC 294) 38 = .ok (.iaload, 1) := by decide +kernel
theorem d_294_39 : decode (mC 294) 39 = .ok (.istore_n 2, 1) := by decide +kernel
theorem d_294_40 : decode (mC 294) 40 = .ok (.iconst 0, 1) := by decide +kernel
theorem d_294_41 : decode (mC 294) 41 = .ok (.istore_n 3, 1) := by decide +kernel
theorem d_294_100 : decode (mC 294) 100 = .ok (.iconst (-1), 1) := by decide +kernel
theorem d_294_101 : decode (mC 294) 101 = .ok (.ireturn, 1) := by decide +kernel
theorem d_294_9 : decode (mC 294) 9 = .ok (.iconst (-1), 1) := by decide +kernel
theorem d_294_10 : decode (mC 294) 10 = .ok (.ireturn, 1) := by decide +kernel
theorem d_295_18 : decode (mC 295) 18 = .ok (.iload 4, 2) := by decide +kernel
theorem d_295_20 : decode (mC 295) 20 = .ok (.iconst 1, 1) := by decide +kernel
theorem d_295_21 : decode (mC 295) 21 = .ok (.aload_n 0, 1) := by decide +kernel
theorem d_295_22 : decode (mC 295) 22 = .ok (.getfield 303, 3) := by decide +kernel
theorem cn_295 : (mN 295).cls = "CordLoftModel" := by decide +kernel
theorem d_295_25 : decode (mC 295) 25 = .ok (.ishl, 1) := by decide +kernel
theorem d_295_26 : decode (mC 295) 26 = .ok (.if_icmp .ge 47, 3) := by decide +kernel
theorem d_295_29 : decode (mC 295) 29 = .ok (.aload_n 0, 1) := by decide +kernel
theorem d_295_30 : decode (mC 295) 30 = .ok (.iload 4, 2) := by decide +kernel
theorem d_295_32 : decode (mC 295) 32 = .ok (.aload_n 0, 1) := by decide +kernel
theorem d_295_33 : decode (mC 295) 33 = .ok (.getfield 66, 3) := by decide +kernel
theorem d_295_36 : decode (mC 295) 36 = .ok (.iconst 3, 1) := by decide +kernel
theorem d_295_37 : decode (mC 295) 37 = .ok (.iaload, 1) := by decide +kernel
theorem d_295_38 : decode (mC 295) 38 = .ok (.invokevirtual 417, 3) := by decide +kernel
theorem vk_295_417 : VK 295 417 257 2 12 := ⟨⟨List.mem_of_getElem? (i := 1744) (by decide +kernel), by decide +kernel⟩, List.mem_of_getElem? (i := 1746) (by decide +kernel), mo_257, m0_257, _, rfl, List.mem_of_getElem? (i := 68) (by decide +kernel), by decide⟩
theorem d_295_41 : decode (mC 295) 41 = .ok (.aload_n 0, 1) := by decide +kernel
theorem d_295_42 : decode (mC 295) 42 = .ok (.getfield 66, 3) := by decide +kernel
theorem d_295_45 : decode (mC 295) 45 = .ok (.iconst 0, 1) := by decide +kernel
theorem d_295_46 : decode (mC 295) 46 = .ok (.iaload, 1) := by decide +kernel
theorem d_295_47 : decode (mC 295) 47 = .ok (.if_icmp .eq 6, 3) := by decide +kernel
theorem d_295_53 : decode (mC 295) 53 = .ok (.iinc 2 1, 3) := by decide +kernel
theorem ml_295 : mL 295 = 5 := by decide +kernel
theorem d_295_56 : decode (mC 295) 56 = .ok (.iload_n 3, 1) := by decide +kernel
theorem d_295_57 : decode (mC 295) 57 = .ok (.ifCond .ge 8, 3) := by decide +kernel
theorem d_295_65 : decode (mC 295) 65 = .ok (.iload_n 3, 1) := by decide +kernel
theorem d_295_66 : decode (mC 295) 66 = .ok (.istore_n 3, 1) := by decide +kernel
theorem d_295_67 : decode (mC 295) 67 = .ok (.iinc 4 1, 3) := by decide +kernel
theorem d_295_70 : decode (mC 295) 70 = .ok (.goto (-52), 3) := by decide +kernel
theorem d_295_60 : decode (mC 295) 60 = .ok (.iload 4, 2) := by decide +kernel
theorem d_295_62 : decode (mC 295) 62 = .ok (.goto 4, 3) := by decide +kernel
theorem d_295_50 : decode (mC 295) 50 = .ok (.goto 17, 3) := by decide +kernel
theorem d_295_0 : decode (mC 295) 0 = .ok (.iload_n 1, 1) := by decide +kernel
theorem d_295_1 : decode (mC 295) 1 = .ok (.iconst 0, 1) := by decide +kernel
theorem d_295_2 : decode (mC 295) 2 = .ok (.iconst 1, 1) := by decide +kernel
theorem d_295_3 : decode (mC 295) 3 = .ok (.invokestatic 399, 3) := by decide +kernel
theorem sk_295_399 : SKc 295 399 243 3 := ⟨⟨List.mem_of_getElem? (i := 1690) (by decide +kernel), by decide +kernel⟩, List.mem_of_getElem? (i := 1691) (by decide +kernel), mo_243, m0_243⟩
theorem d_295_6 : decode (mC 295) 6 = .ok (.ifCond .ne 5, 3) := by decide +kernel
theorem d_295_11 : decode (mC 295) 11 = .ok (.iconst 0, 1) := by decide +kernel
theorem d_295_12 : decode (mC 295) 12 = .ok (.istore_n 2, 1) := by decide +kernel
theorem d_295_13 : decode (mC 295) 13 = .ok (.iconst (-1), 1) := by decide +kernel
theorem d_295_14 : decode (mC 295) 14 = .ok (.istore_n 3, 1) := by decide +kernel
theorem d_295_15 : decode (mC 295) 15 = .ok (.iconst 0, 1) := by decide +kernel
theorem d_295_16 : decode (mC 295) 16 = .ok (.istore 4, 2) := by decide +kernel
theorem d_295_73 : decode (mC 295) 73 = .ok (.iload_n 1, 1) := by decide +kernel
theorem d_295_74 : decode (mC 295) 74 = .ok (.ifCond .ne 7, 3) := by decide +kernel
theorem d_295_81 : decode (mC 295) 81 = .ok (.iload_n 3, 1) := by decide +kernel
theorem d_295_82 : decode (mC 295) 82 = .ok (.ireturn, 1) := by decide +kernel
theorem mr_295 : mR 295 = some .int := by decide +kernel
theorem d_295_77 : decode (mC 295) 77 = .ok (.iload_n 2, 1) := by decide +kernel
theorem d_295_78 : decode (mC 295) 78 = .ok (.goto 4, 3) := by decide +kernel
theorem d_295_9 : decode (mC 295) 9 = .ok (.iconst (-1), 1) := by decide +kernel
theorem d_295_10 : decode (mC 295) 10 = .ok (.ireturn, 1) := by decide +kernel
theorem d_296_35 : decode (mC 296) 35 = .ok (.invokestatic 283, 3) := by decide +kernel
theorem sk_296_283 : SKc 296 283 259 1 := ⟨⟨List.mem_of_getElem? (i := 1752) (by decide +kernel), by decide +kernel⟩, List.mem_of_getElem? (i := 1753) (by decide +kernel), mo_259, m0_259⟩
theorem d_296_38 : decode (mC 296) 38 = .ok (.iadd, 1) := by decide +kernel
theorem d_296_39 : decode (mC 296) 39 = .ok (.istore_n 1, 1) := by decide +kernel
theorem ml_296 : mL 296 = 3 := by decide +kernel
theorem d_296_40 : decode (mC 296) 40 = .ok (.iinc 2 1, 3) := by decide +kernel
theorem d_296_43 : decode (mC 296) 43 = .ok (.goto (-39), 3) := by decide +kernel
theorem d_296_4 : decode (mC 296) 4 = .ok (.iload_n 2, 1) := by decide +kernel
theorem d_296_5 : decode (mC 296) 5 = .ok (.iconst 1, 1) := by decide +kernel
theorem d_296_6 : decode (mC 296) 6 = .ok (.aload_n 0, 1) := by decide +kernel
theorem d_296_7 : decode (mC 296) 7 = .ok (.getfield 303, 3) := by decide +kernel
theorem cn_296 : (mN 296).cls = "CordLoftModel" := by decide +kernel
theorem d_296_10 : decode (mC 296) 10 = .ok (.ishl, 1) := by decide +kernel
theorem d_296_11 : decode (mC 296) 11 = .ok (.if_icmp .ge 35, 3) := by decide +kernel
theorem d_296_14 : decode (mC 296) 14 = .ok (.iload_n 1, 1) := by decide +kernel
theorem d_296_15 : decode (mC 296) 15 = .ok (.aload_n 0, 1) := by decide +kernel
theorem d_296_16 : decode (mC 296) 16 = .ok (.iload_n 2, 1) := by decide +kernel
theorem d_296_17 : decode (mC 296) 17 = .ok (.aload_n 0, 1) := by decide +kernel
theorem d_296_18 : decode (mC 296) 18 = .ok (.getfield 66, 3) := by decide +kernel
theorem d_296_21 : decode (mC 296) 21 = .ok (.iconst 3, 1) := by decide +kernel
theorem d_296_22 : decode (mC 296) 22 = .ok (.iaload, 1) := by decide +kernel
theorem d_296_23 : decode (mC 296) 23 = .ok (.invokevirtual 417, 3) := by decide +kernel
theorem vk_296_417 : VK 296 417 257 2 12 := ⟨⟨List.mem_of_getElem? (i := 1744) (by decide +kernel), by decide +kernel⟩, List.mem_of_getElem? (i := 1746) (by decide +kernel), mo_257, m0_257, _, rfl, List.mem_of_getElem? (i := 68) (by decide +kernel), by decide⟩
theorem d_296_26 : decode (mC 296) 26 = .ok (.iload_n 2, 1) := by decide +kernel
theorem d_296_27 : decode (mC 296) 27 = .ok (.if_icmp .ne 7, 3) := by decide +kernel
theorem d_296_34 : decode (mC 296) 34 = .ok (.iconst 0, 1) := by decide +kernel
theorem d_296_30 : decode (mC 296) 30 = .ok (.iconst 1, 1) := by decide +kernel
theorem d_296_31 : decode (mC 296) 31 = .ok (.goto 4, 3) := by decide +kernel
theorem d_296_0 : decode (mC 296) 0 = .ok (.iconst 0, 1) := by decide +kernel
theorem d_296_1 : decode (mC 296) 1 = .ok (.istore_n 1, 1) := by decide +kernel
theorem d_296_2 : decode (mC 296) 2 = .ok (.iconst 0, 1) := by decide +kernel
theorem d_296_3 : decode (mC 296) 3 = .ok (.istore_n 2, 1) := by decide +kernel
theorem d_296_46 : decode (mC 296) 46 = .ok (.iload_n 1, 1) := by decide +kernel
theorem d_296_47 : decode (mC 296) 47 = .ok (.ireturn, 1) := by decide +kernel
theorem mr_296 : mR 296 = some .int := by decide +kernel
theorem d_297_18 : decode (mC 297) 18 = .ok (.iload 4, 2) := by decide +kernel
theorem d_297_20 : decode (mC 297) 20 = .ok (.iconst 1, 1) := by decide +kernel
theorem d_297_21 : decode (mC 297) 21 = .ok (.aload_n 0, 1) := by decide +kernel
theorem d_297_22 : decode (mC 297) 22 = .ok (.getfield 303, 3) := by decide +kernel
theorem cn_297 : (mN 297).cls = "CordLoftModel" := by decide +kernel
theorem d_297_25 : decode (mC 297) 25 = .ok (.ishl, 1) := by decide +kernel
theorem d_297_26 : decode (mC 297) 26 = .ok (.if_icmp .ge 36, 3) := by decide +kernel
theorem d_297_29 : decode (mC 297) 29 = .ok (.aload_n 0, 1) := by decide +kernel
theorem d_297_30 : decode (mC 297) 30 = .ok (.aload_n 0, 1) := by decide +kernel
theorem d_297_31 : decode (mC 297) 31 = .ok (.invokevirtual 429, 3) := by decide +kernel
theorem vk_297_429 : VK 297 429 268 0 12 := ⟨⟨List.mem_of_getElem? (i := 1786) (by decide +kernel), by decide +kernel⟩, List.mem_of_getElem? (i := 1788) (by decide +kernel), mo_268, m0_268, _, rfl, List.mem_of_getElem? (i := 73) (by decide +kernel), by decide⟩
theorem d_297_34 : decode (mC 297) 34 = .ok (.iload 4, 2) := by decide +kernel
theorem d_297_36 : decode (mC 297) 36 = .ok (.invokevirtual 454, 3) := by decide +kernel
theorem vk_297_454 : VK 297 454 279 2 12 := ⟨⟨List.mem_of_getElem? (i := 1829) (by decide +kernel), by decide +kernel⟩, List.mem_of_getElem? (i := 1831) (by decide +kernel), mo_279, m0_279, _, rfl, List.mem_of_getElem? (i := 78) (by decide +kernel), by decide⟩
theorem d_297_39 : decode (mC 297) 39 = .ok (.istore 5, 2) := by decide +kernel
theorem ml_297 : mL 297 = 6 := by decide +kernel
theorem d_297_41 : decode (mC 297) 41 = .ok (.iload 5, 2) := by decide +kernel
theorem d_297_43 : decode (mC 297) 43 = .ok (.iload_n 3, 1) := by decide +kernel
theorem d_297_44 : decode (mC 297) 44 = .ok (.if_icmp .gt 6, 3) := by decide +kernel
theorem d_297_50 : decode (mC 297) 50 = .ok (.iload 4, 2) := by decide +kernel
theorem d_297_52 : decode (mC 297) 52 = .ok (.istore_n 2, 1) := by decide +kernel
theorem d_297_53 : decode (mC 297) 53 = .ok (.iload 5, 2) := by decide +kernel
theorem d_297_55 : decode (mC 297) 55 = .ok (.istore_n 3, 1) := by decide +kernel
theorem d_297_56 : decode (mC 297) 56 = .ok (.iinc 4 1, 3) := by decide +kernel
theorem d_297_59 : decode (mC 297) 59 = .ok (.goto (-41), 3) := by decide +kernel
theorem d_297_47 : decode (mC 297) 47 = .ok (.goto 9, 3) := by decide +kernel
theorem d_297_0 : decode (mC 297) 0 = .ok (.iload_n 1, 1) := by decide +kernel
theorem d_297_1 : decode (mC 297) 1 = .ok (.iconst 0, 1) := by decide +kernel
theorem d_297_2 : decode (mC 297) 2 = .ok (.iconst 1, 1) := by decide +kernel
theorem d_297_3 : decode (mC 297) 3 = .ok (.invokestatic 399, 3) := by decide +kernel
theorem sk_297_399 : SKc 297 399 243 3 := ⟨⟨List.mem_of_getElem? (i := 1690) (by decide +kernel), by decide +kernel⟩, List.mem_of_getElem? (i := 1691) (by decide +kernel), mo_243, m0_243⟩
theorem d_297_6 : decode (mC 297) 6 = .ok (.ifCond .ne 5, 3) := by decide +kernel
theorem d_297_11 : decode (mC 297) 11 = .ok (.iconst (-1), 1) := by decide +kernel
theorem d_297_12 : decode (mC 297) 12 = .ok (.istore_n 2, 1) := by decide +kernel
theorem d_297_13 : decode (mC 297) 13 = .ok (.iconst (-1), 1) := by decide +kernel
theorem d_297_14 : decode (mC 297) 14 = .ok (.istore_n 3, 1) := by decide +kernel
theorem d_297_15 : decode (mC 297) 15 = .ok (.iconst 0, 1) := by decide +kernel
theorem d_297_16 : decode (mC 297) 16 = .ok (.istore 4, 2) := by decide +kernel
theorem d_297_62 : decode (mC 297) 62 = .ok (.iload_n 1, 1) := by decide +kernel
theorem d_297_63 : decode (mC 297) 63 = .ok (.ifCond .ne 7, 3) := by decide +kernel
theorem d_297_70 : decode (mC 297) 70 = .ok (.iload_n 3, 1) := by decide +kernel
theorem d_297_71 : decode (mC 297) 71 = .ok (.ireturn, 1) := by decide +kernel
theorem mr_297 : mR 297 = some .int := by decide +kernel
theorem d_297_66 : decode (mC 297) 66 = .ok (.iload_n 2, 1) := by decide +kernel
theorem d_297_67 : decode (mC 297) 67 = .ok (.goto 4, 3) := by decide +kernel
theorem d_297_9 : decode (mC 297) 9 = .ok (.iconst (-1), 1) := by decide +kernel
theorem d_297_10 : decode (mC 297) 10 = .ok (.ireturn, 1) := by decide +kernel
theorem d_299_0 : decode (mC 299) 0 = .ok (.aload_n 0, 1) := by decide +kernel
theorem d_299_1 : decode (mC 299) 1 = .ok (.iconst 0, 1) := by decide +kernel
theorem d_299_2 : decode (mC 299) 2 = .ok (.invokevirtual 451, 3) := by decide +kernel
theorem vk_299_451 : VK 299 451 275 1 12 := ⟨⟨List.mem_of_getElem? (i := 1813) (by decide +kernel), by decide +kernel⟩, List.mem_of_getElem? (i := 1815) (by decide +kernel), mo_275, m0_275, _, rfl, List.mem_of_getElem? (i := 76) (by decide +kernel), by decide⟩
theorem d_299_5 : decode (mC 299) 5 = .ok (.istore_n 1, 1) := by decide +kernel
theorem ml_299 : mL 299 = 2 := by decide +kernel
theorem d_299_6 : decode (mC 299) 6 = .ok (.iload_n 1, 1) := by decide +kernel
theorem d_299_7 : decode (mC 299) 7 = .ok (.ifCond .ge 9, 3) := by decide +kernel
theorem d_299_16 : decode (mC 299) 16 = .ok (.aload_n 0, 1) := by decide +kernel
theorem d_299_17 : decode (mC 299) 17 = .ok (.iload_n 1, 1) := by decide +kernel
theorem d_299_18 : decode (mC 299) 18 = .ok (.invokevirtual 448, 3) := by decide +kernel
theorem vk_299_448 : VK 299 448 276 1 12 := ⟨⟨List.mem_of_getElem? (i := 1817) (by decide +kernel), by decide +kernel⟩, List.mem_of_getElem? (i := 1819) (by decide +kernel), mo_276, m0_276, _, rfl, List.mem_of_getElem? (i := 77) (by decide +kernel), by decide⟩
theorem d_299_21 : decode (mC 299) 21 = .ok (.ireturn, 1) := by decide +kernel
theorem mr_299 : mR 299 = some .int := by decide +kernel
theorem d_299_10 : decode (mC 299) 10 = .ok (.ldc_w 466, 3) := by decide +kernel
theorem cn_299 : (mN 299).cls = "CordLoftModel" := by decide +kernel
theorem d_299_13 : decode (mC 299) 13 = .ok (.goto 8, 3) := by decide +kernel
theorem d_300_0 : decode (mC 300) 0 = .ok (.aload_n 0, 1) := by decide +kernel
theorem d_300_1 : decode (mC 300) 1 = .ok (.getfield 63, 3) := by decide +kernel
theorem cn_300 : (mN 300).cls = "CordLoftModel" := by decide +kernel
theorem d_300_4 : decode (mC 300) 4 = .ok (.iload_n 1, 1) := by decide +kernel
theorem d_300_5 : decode (mC 300) 5 = .ok (.iaload, 1) := by decide +kernel
theorem d_300_6 : decode (mC 300) 6 = .ok (.istore_n 3, 1) := by decide +kernel
theorem ml_300 : mL 300 = 4 := by decide +kernel
theorem d_300_7 : decode (mC 300) 7 = .ok (.aload_n 0, 1) := by decide +kernel
theorem d_300_8 : decode (mC 300) 8 = .ok (.getfield 63, 3) := by decide +kernel
theorem d_300_11 : decode (mC 300) 11 = .ok (.iload_n 1, 1) := by decide +kernel
theorem d_300_12 : decode (mC 300) 12 = .ok (.aload_n 0, 1) := by decide +kernel
theorem d_300_13 : decode (mC 300) 13 = .ok (.getfield 63, 3) := by decide +kernel
theorem d_300_16 : decode (mC 300) 16 = .ok (.iload_n 2, 1) := by decide +kernel
theorem d_300_17 : decode (mC 300) 17 = .ok (.iaload, 1) := by decide +kernel
theorem d_300_18 : decode (mC 300) 18 = .ok (.iastore, 1) := by decide +kernel
theorem d_300_19 : decode (mC 300) 19 = .ok (.aload_n 0, 1) := by decide +kernel
theorem d_300_20 : decode (mC 300) 20 = .ok (.getfield 63, 3) := by decide +kernel
theorem d_300_23 : decode (mC 300) 23 = .ok (.iload_n 2, 1) := by decide +kernel
theorem d_300_24 : decode (mC 300) 24 = .ok (.iload_n 3, 1) := by decide +kernel
theorem d_300_25 : decode (mC 300) 25 = .ok (.iastore, 1) := by decide +kernel
theorem d_300_26 : decode (mC 300) 26 = .ok (.return_, 1) := by decide +kernel
theorem mr_300 : mR 300 = none := by decide +kernel
theorem d_298_39 : decode (mC 298) 39 = .ok (.iload 6, 2) := by decide +kernel
theorem d_298_41 : decode (mC 298) 41 = .ok (.aload_n 0, 1) := by decide +kernel
theorem d_298_42 : decode (mC 298) 42 = .ok (.getfield 369, 3) := by decide +kernel
theorem cn_298 : (mN 298).cls = "CordLoftModel" := by decide +kernel
theorem d_298_45 : decode (mC 298) 45 = .ok (.if_icmp .ge 51, 3) := by decide +kernel
theorem d_298_48 : decode (mC 298) 48 = .ok (.aload_n 0, 1) := by decide +kernel
theorem d_298_49 : decode (mC 298) 49 = .ok (.iload 5, 2) := by decide +kernel
theorem d_298_51 : decode (mC 298) 51 = .ok (.iload 6, 2) := by decide +kernel
theorem d_298_53 : decode (mC 298) 53 = .ok (.invokevirtual 476, 3) := by decide +kernel
theorem mo_300 : MOK 300 := ⟨List.mem_of_getElem? (i := 1918) (by decide +kernel), by decide +kernel, ⟨by decide +kernel, by decide +kernel⟩, List.mem_of_getElem? (i := 100) (by decide +kernel), by decide +kernel⟩
theorem m0_300 : M0K 300 := ⟨by decide +kernel, by decide +kernel⟩
theorem vk_298_476 : VK 298 476 300 2 12 := ⟨⟨List.mem_of_getElem? (i := 1915) (by decide +kernel), by decide +kernel⟩, List.mem_of_getElem? (i := 1917) (by decide +kernel), mo_300, m0_300, _, rfl, List.mem_of_getElem? (i := 84) (by decide +kernel), by decide⟩
theorem d_298_56 : decode (mC 298) 56 = .ok (.aload_n 0, 1) := by decide +kernel
theorem d_298_57 : decode (mC 298) 57 = .ok (.invokevirtual 473, 3) := by decide +kernel
theorem mo_299 : MOK 299 := ⟨List.mem_of_getElem? (i := 1914) (by decide +kernel), by decide +kernel, ⟨by decide +kernel, by decide +kernel⟩, List.mem_of_getElem? (i := 100) (by decide +kernel), by decide +kernel⟩
theorem m0_299 : M0K 299 := ⟨by decide +kernel, by decide +kernel⟩
theorem vk_298_473 : VK 298 473 299 0 12 := ⟨⟨List.mem_of_getElem? (i := 1911) (by decide +kernel), by decide +kernel⟩, List.mem_of_getElem? (i := 1913) (by decide +kernel), mo_299, m0_299, _, rfl, List.mem_of_getElem? (i := 83) (by decide +kernel), by decide⟩
theorem d_298_60 : decode (mC 298) 60 = .ok (.istore 7, 2) := by decide +kernel
theorem ml_298 : mL 298 = 8 := by decide +kernel
theorem d_298_62 : decode (mC 298) 62 = .ok (.aload_n 0, 1) := by decide +kernel
theorem d_298_63 : decode (mC 298) 63 = .ok (.iload 5, 2) := by decide +kernel
theorem d_298_65 : decode (mC 298) 65 = .ok (.iload 6, 2) := by decide +kernel
theorem d_298_67 : decode (mC 298) 67 = .ok (.invokevirtual 476, 3) := by decide +kernel
theorem d_298_70 : decode (mC 298) 70 = .ok (.iload 7, 2) := by decide +kernel
theorem d_298_72 : decode (mC 298) 72 = .ok (.iload 4, 2) := by decide +kernel
theorem d_298_74 : decode (mC 298) 74 = .ok (.if_icmp .lt 6, 3) := by decide +kernel
theorem d_298_80 : decode (mC 298) 80 = .ok (.iload 5, 2) := by decide +kernel
theorem d_298_82 : decode (mC 298) 82 = .ok (.istore_n 2, 1) := by decide +kernel
theorem d_298_83 : decode (mC 298) 83 = .ok (.iload 6, 2) := by decide +kernel
theorem d_298_85 : decode (mC 298) 85 = .ok (.istore_n 3, 1) := by decide +kernel
theorem d_298_86 : decode (mC 298) 86 = .ok (.iload 7, 2) := by decide +kernel
theorem d_298_88 : decode (mC 298) 88 = .ok (.istore 4, 2) := by decide +kernel
theorem d_298_90 : decode (mC 298) 90 = .ok (.iinc 6 1, 3) := by decide +kernel
theorem d_298_93 : decode (mC 298) 93 = .ok (.goto (-54), 3) := by decide +kernel
theorem d_298_77 : decode (mC 298) 77 = .ok (.goto 13, 3) := by decide +kernel
theorem d_298_24 : decode (mC 298) 24 = .ok (.iload 5, 2) := by decide +kernel
theorem d_298_26 : decode (mC 298) 26 = .ok (.aload_n 0, 1) := by decide +kernel
theorem d_298_27 : decode (mC 298) 27 = .ok (.getfield 369, 3) := by decide +kernel
theorem d_298_30 : decode (mC 298) 30 = .ok (.if_icmp .ge 72, 3) := by decide +kernel
theorem d_298_33 : decode (mC 298) 33 = .ok (.iload 5, 2) := by decide +kernel
theorem d_298_35 : decode (mC 298) 35 = .ok (.iconst 1, 1) := by decide +kernel
theorem d_298_36 : decode (mC 298) 36 = .ok (.iadd, 1) := by decide +kernel
theorem d_298_37 : decode (mC 298) 37 = .ok (.istore 6, 2) := by decide +kernel
theorem d_298_96 : decode (mC 298) 96 = .ok (.iinc 5 1, 3) := by decide +kernel
theorem d_298_99 : decode (mC 298) 99 = .ok (.goto (-75), 3) := by decide +kernel
theorem d_298_0 : decode (mC 298) 0 = .ok (.iload_n 1, 1) := by decide +kernel
theorem d_298_1 : decode (mC 298) 1 = .ok (.iconst 0, 1) := by decide +kernel
theorem d_298_2 : decode (mC 298) 2 = .ok (.iconst 2, 1) := by decide +kernel
theorem d_298_3 : decode (mC 298) 3 = .ok (.invokestatic 399, 3) := by decide +kernel
theorem sk_298_399 : SKc 298 399 243 3 := ⟨⟨List.mem_of_getElem? (i := 1690) (by decide +kernel), by decide +kernel⟩, List.mem_of_getElem? (i := 1691) (by decide +kernel), mo_243, m0_243⟩
theorem d_298_6 : decode (mC 298) 6 = .ok (.ifCond .ne 5, 3) := by decide +kernel
theorem d_298_11 : decode (mC 298) 11 = .ok (.iconst (-1), 1) := by decide +kernel
theorem d_298_12 : decode (mC 298) 12 = .ok (.istore_n 2, 1) := by decide +kernel
theorem d_298_13 : decode (mC 298) 13 = .ok (.iconst (-1), 1) := by decide +kernel
theorem d_298_14 : decode (mC 298) 14 = .ok (.istore_n 3, 1) := by decide +kernel
theorem d_298_15 : decode (mC 298) 15 = .ok (.aload_n 0, 1) := by decide +kernel
theorem d_298_16 : decode (mC 298) 16 = .ok (.invokevirtual 473, 3) := by decide +kernel
theorem d_298_19 : decode (mC 298) 19 = .ok (.istore 4, 2) := by decide +kernel
theorem d_298_21 : decode (mC 298) 21 = .ok (.iconst 0, 1) := by decide +kernel
theorem d_298_22 : decode (mC 298) 22 = .ok (.istore 5, 2) := by decide +kernel
theorem d_298_102 : decode (mC 298) 102 = .ok (.iload_n 2, 1) := by decide +kernel
theorem d_298_103 : decode (mC 298) 103 = .ok (.ifCond .ge 7, 3) := by decide +kernel
theorem d_298_110 : decode (mC 298) 110 = .ok (.iload_n 1, 1) := by decide +kernel
theorem d_298_111 : decode (mC 298) 111 = .ok (.ifCond .ne 7, 3) := by decide +kernel
theorem d_298_118 : decode (mC 298) 118 = .ok (.iload_n 1, 1) := by decide +kernel
theorem d_298_119 : decode (mC 298) 119 = .ok (.iconst 1, 1) := by decide +kernel
theorem d_298_120 : decode (mC 298) 120 = .ok (.if_icmp .ne 7, 3) := by decide +kernel
theorem d_298_127 : decode (mC 298) 127 = .ok (.iload 4, 2) := by decide +kernel
theorem d_298_129 : decode (mC 298) 129 = .ok (.ireturn, 1) := by decide +kernel
theorem mr_298 : mR 298 = some .int := by decide +kernel
theorem d_298_123 : decode (mC 298) 123 = .ok (.iload_n 3, 1) := by decide +kernel
theorem d_298_124 : decode (mC 298) 124 = .ok (.goto 5, 3) := by decide +kernel
theorem d_298_114 : decode (mC 298) 114 = .ok (.iload_n 2, 1) := by decide +kernel
theorem d_298_115 : decode (mC 298) 115 = .ok (.goto 14, 3) := by decide +kernel
theorem d_298_106 : decode (mC 298) 106 = .ok (.iconst (-1), 1) := by decide +kernel
theorem d_298_107 : decode (mC 298) 107 = .ok (.goto 22, 3) := by decide +kernel
theorem d_298_9 : decode (mC 298) 9 = .ok (.iconst (-1), 1) := by decide +kernel
theorem d_298_10 : decode (mC 298) 10 = .ok (.ireturn, 1) := by decide +kernel
theorem d_301_40 : decode (mC 301) 40 = .ok (.istore 4, 2) := by decide +kernel
theorem ml_301 : mL 301 = 5 := by decide +kernel
theorem d_301_42 : decode (mC 301) 42 = .ok (.iload 4, 2) := by decide +kernel
theorem d_301_44 : decode (mC 301) 44 = .ok (.iload_n 2, 1) := by decide +kernel
theorem d_301_45 : decode (mC 301) 45 = .ok (.if_icmp .gt 6, 3) := by decide +kernel
theorem d_301_51 : decode (mC 301) 51 = .ok (.iload_n 3, 1) := by decide +kernel
theorem d_301_52 : decode (mC 301) 52 = .ok (.istore_n 1, 1) := by decide +kernel
theorem d_301_53 : decode (mC 301) 53 = .ok (.iload 4, 2) := by decide +kernel
theorem d_301_55 : decode (mC 301) 55 = .ok (.istore_n 2, 1) := by decide +kernel
theorem d_301_56 : decode (mC 301) 56 = .ok (.iinc 3 1, 3) := by decide +kernel
theorem d_301_59 : decode (mC 301) 59 = .ok (.goto (-53), 3) := by decide +kernel
theorem d_301_48 : decode (mC 301) 48 = .ok (.goto 8, 3) := by decide +kernel
theorem d_301_6 : decode (mC 301) 6 = .ok (.iload_n 3, 1) := by decide +kernel
theorem d_301_7 : decode (mC 301) 7 = .ok (.aload_n 0, 1) := by decide +kernel
theorem d_301_8 : decode (mC 301) 8 = .ok (.getfield 369, 3) := by decide +kernel
theorem cn_301 : (mN 301).cls = "CordLoftModel" := by decide +kernel
theorem d_301_11 : decode (mC 301) 11 = .ok (.if_icmp .ge 51, 3) := by decide +kernel
theorem d_301_14 : decode (mC 301) 14 = .ok (.aload_n 0, 1) := by decide +kernel
theorem d_301_15 : decode (mC 301) 15 = .ok (.iload_n 3, 1) := by decide +kernel
theorem d_301_16 : decode (mC 301) 16 = .ok (.invokevirtual 408, 3) := by decide +kernel
theorem vk_301_408 : VK 301 408 249 1 12 := ⟨⟨List.mem_of_getElem? (i := 1713) (by decide +kernel), by decide +kernel⟩, List.mem_of_getElem? (i := 1715) (by decide +kernel), mo_249, m0_249, _, rfl, List.mem_of_getElem? (i := 64) (by decide +kernel), by decide⟩
theorem d_301_19 : decode (mC 301) 19 = .ok (.ifCond .eq 20, 3) := by decide +kernel
theorem d_301_39 : decode (mC 301) 39 = .ok (.iconst (-1), 1) := by decide +kernel
theorem d_301_22 : decode (mC 301) 22 = .ok (.aload_n 0, 1) := by decide +kernel
theorem d_301_23 : decode (mC 301) 23 = .ok (.aload_n 0, 1) := by decide +kernel
theorem d_301_24 : decode (mC 301) 24 = .ok (.invokevirtual 429, 3) := by decide +kernel
theorem vk_301_429 : VK 301 429 268 0 12 := ⟨⟨List.mem_of_getElem? (i := 1786) (by decide +kernel), by decide +kernel⟩, List.mem_of_getElem? (i := 1788) (by decide +kernel), mo_268, m0_268, _, rfl, List.mem_of_getElem? (i := 73) (by decide +kernel), by decide⟩
theorem d_301_27 : decode (mC 301) 27 = .ok (.aload_n 0, 1) := by decide +kernel
theorem d_301_28 : decode (mC 301) 28 = .ok (.getfield 60, 3) := by decide +kernel
theorem d_301_31 : decode (mC 301) 31 = .ok (.iload_n 3, 1) := by decide +kernel
theorem d_301_32 : decode (mC 301) 32 = .ok (.iaload, 1) := by decide +kernel
theorem d_301_33 : decode (mC 301) 33 = .ok (.invokevirtual 454, 3) := by decide +kernel
theorem vk_301_454 : VK 301 454 279 2 12 := ⟨⟨List.mem_of_getElem? (i := 1829) (by decide +kernel), by decide +kernel⟩, List.mem_of_getElem? (i := 1831) (by decide +kernel), mo_279, m0_279, _, rfl, List.mem_of_getElem? (i := 78) (by decide +kernel), by decide⟩
theorem d_301_36 : decode (mC 301) 36 = .ok (.goto 4, 3) := by decide +kernel
theorem d_301_0 : decode (mC 301) 0 = .ok (.iconst (-1), 1) := by decide +kernel
theorem d_301_1 : decode (mC 301) 1 = .ok (.istore_n 1, 1) := by decide +kernel
theorem d_301_2 : decode (mC 301) 2 = .ok (.iconst (-1), 1) := by decide +kernel
theorem d_301_3 : decode (mC 301) 3 = .ok (.istore_n 2, 1) := by decide +kernel
theorem d_301_4 : decode (mC 301) 4 = .ok (.iconst 0, 1) := by decide +kernel
theorem d_301_5 : decode (mC 301) 5 = .ok (.istore_n 3, 1) := by decide +kernel
theorem d_301_62 : decode (mC 301) 62 = .ok (.iload_n 1, 1) := by decide +kernel
theorem d_301_63 : decode (mC 301) 63 = .ok (.ireturn, 1) := by decide +kernel
theorem mr_301 : mR 301 = some .int := by decide +kernel
theorem d_302_57 : decode (mC 302) 57 = .ok (.istore 5, 2) := by decide +kernel
theorem ml_302 : mL 302 = 6 := by decide +kernel
theorem d_302_59 : decode (mC 302) 59 = .ok (.iload 5, 2) := by decide +kernel
theorem d_302_61 : decode (mC 302) 61 = .ok (.iload_n 3, 1) := by decide +kernel
theorem d_302_62 : decode (mC 302) 62 = .ok (.if_icmp .gt 6, 3) := by decide +kernel
theorem d_302_68 : decode (mC 302) 68 = .ok (.iload 4, 2) := by decide +kernel
theorem d_302_70 : decode (mC 302) 70 = .ok (.istore_n 2, 1) := by decide +kernel
theorem d_302_71 : decode (mC 302) 71 = .ok (.iload 5, 2) := by decide +kernel
theorem d_302_73 : decode (mC 302) 73 = .ok (.istore_n 3, 1) := by decide +kernel
theorem d_302_74 : decode (mC 302) 74 = .ok (.iinc 4 1, 3) := by decide +kernel
theorem d_302_77 : decode (mC 302) 77 = .ok (.goto (-59), 3) := by decide +kernel
theorem d_302_65 : decode (mC 302) 65 = .ok (.goto 9, 3) := by decide +kernel
theorem d_302_18 : decode (mC 302) 18 = .ok (.iload 4, 2) := by decide +kernel
theorem d_302_20 : decode (mC 302) 20 = .ok (.aload_n 0, 1) := by decide +kernel
theorem d_302_21 : decode (mC 302) 21 = .ok (.getfield 369, 3) := by decide +kernel
theorem cn_302 : (mN 302).cls = "CordLoftModel" := by decide +kernel
theorem d_302_24 : decode (mC 302) 24 = .ok (.if_icmp .ge 56, 3) := by decide +kernel
theorem d_302_27 : decode (mC 302) 27 = .ok (.aload_n 0, 1) := by decide +kernel
theorem d_302_28 : decode (mC 302) 28 = .ok (.iload 4, 2) := by decide +kernel
theorem d_302_30 : decode (mC 302) 30 = .ok (.invokevirtual 408, 3) := by decide +kernel
theorem vk_302_408 : VK 302 408 249 1 12 := ⟨⟨List.mem_of_getElem? (i := 1713) (by decide +kernel), by decide +kernel⟩, List.mem_of_getElem? (i := 1715) (by decide +kernel), mo_249, m0_249, _, rfl, List.mem_of_getElem? (i := 64) (by decide +kernel), by decide⟩
theorem d_302_33 : decode (mC 302) 33 = .ok (.ifCond .eq 7, 3) := by decide +kernel
theorem d_302_40 : decode (mC 302) 40 = .ok (.aload_n 0, 1) := by decide +kernel
theorem d_302_41 : decode (mC 302) 41 = .ok (.getfield 66, 3) := by decide +kernel
theorem d_302_44 : decode (mC 302) 44 = .ok (.iconst 0, 1) := by decide +kernel
theorem d_302_45 : decode (mC 302) 45 = .ok (.iaload, 1) := by decide +kernel
theorem d_302_46 : decode (mC 302) 46 = .ok (.aload_n 0, 1) := by decide +kernel
theorem d_302_47 : decode (mC 302) 47 = .ok (.getfield 60, 3) := by decide +kernel
theorem d_302_50 : decode (mC 302) 50 = .ok (.iload 4, 2) := by decide +kernel
theorem d_302_52 : decode (mC 302) 52 = .ok (.iaload, 1) := by decide +kernel
theorem d_302_53 : decode (mC 302) 53 = .ok (.ixor, 1) := by decide +kernel
theorem d_302_54 : decode (mC 302) 54 = .ok (.invokestatic 290, 3) := by decide +kernel
theorem sk_302_290 : SKc 302 290 250 1 := ⟨⟨List.mem_of_getElem? (i := 1717) (by decide +kernel), by decide +kernel⟩, List.mem_of_getElem? (i := 1718) (by decide +kernel), mo_250, m0_250⟩
theorem d_302_36 : decode (mC 302) 36 = .ok (.iconst (-1), 1) := by decide +kernel
theorem d_302_37 : decode (mC 302) 37 = .ok (.goto 20, 3) := by decide +kernel
theorem d_302_0 : decode (mC 302) 0 = .ok (.iload_n 1, 1) := by decide +kernel
theorem d_302_1 : decode (mC 302) 1 = .ok (.iconst 0, 1) := by decide +kernel
theorem d_302_2 : decode (mC 302) 2 = .ok (.iconst 1, 1) := by decide +kernel
theorem d_302_3 : decode (mC 302) 3 = .ok (.invokestatic 399, 3) := by decide +kernel
theorem sk_302_399 : SKc 302 399 243 3 := ⟨⟨List.mem_of_getElem? (i := 1690) (by decide +kernel), by decide +kernel⟩, List.mem_of_getElem? (i := 1691) (by decide +kernel), mo_243, m0_243⟩
theorem d_302_6 : decode (mC 302) 6 = .ok (.ifCond .ne 5, 3) := by decide +kernel
theorem d_302_11 : decode (mC 302) 11 = .ok (.iconst (-1), 1) := by decide +kernel
theorem d_302_12 : decode (mC 302) 12 = .ok (.istore_n 2, 1) := by decide +kernel
theorem d_302_13 : decode (mC 302) 13 = .ok (.iconst (-1), 1) := by decide +kernel
theorem d_302_14 : decode (mC 302) 14 = .ok (.istore_n 3, 1) := by decide +kernel
theorem d_302_15 : decode (mC 302) 15 = .ok (.iconst 0, 1) := by decide +kernel
theorem d_302_16 : decode (mC 302) 16 = .ok (.istore 4, 2) := by decide +kernel
theorem d_302_80 : decode (mC 302) 80 = .ok (.iload_n 1, 1) := by decide +kernel
theorem d_302_81 : decode (mC 302) 81 = .ok (.ifCond .ne 7, 3) := by decide +kernel
theorem d_302_88 : decode (mC 302) 88 = .ok (.iload_n 3, 1) := by decide +kernel
theorem d_302_89 : decode (mC 302) 89 = .ok (.ireturn, 1) := by decide +kernel
theorem mr_302 : mR 302 = some .int := by decide +kernel
theorem d_302_84 : decode (mC 302) 84 = .ok (.iload_n 2, 1) := by decide +kernel
theorem d_302_85 : decode (mC 302) 85 = .ok (.goto 4, 3) := by decide +kernel
theorem d_302_9 : decode (mC 302) 9 = .ok (.iconst (-1), 1) := by decide +kernel
theorem d_302_10 : decode (mC 302) 10 = .ok (.ireturn, 1) := by decide +kernel
theorem d_303_56 : decode (mC 303) 56 = .ok (.invokestatic 283, 3) := by decide +kernel
theorem sk_303_283 : SKc 303 283 259 1 := ⟨⟨List.mem_of_getElem? (i := 1752) (by decide +kernel), by decide +kernel⟩, List.mem_of_getElem? (i := 1753) (by decide +kernel), mo_259, m0_259⟩
theorem d_303_59 : decode (mC 303) 59 = .ok (.iload_n 3, 1) := by decide +kernel
theorem d_303_60 : decode (mC 303) 60 = .ok (.ishl, 1) := by decide +kernel
theorem d_303_61 : decode (mC 303) 61 = .ok (.ior, 1) := by decide +kernel
theorem d_303_62 : decode (mC 303) 62 = .ok (.istore_n 2, 1) := by decide +kernel
theorem ml_303 : mL 303 = 4 := by decide +kernel
theorem d_303_63 : decode (mC 303) 63 = .ok (.iinc 3 1, 3) := by decide +kernel
theorem d_303_66 : decode (mC 303) 66 = .ok (.goto (-52), 3) := by decide +kernel
theorem d_303_55 : decode (mC 303) 55 = .ok (.iconst 0, 1) := by decide +kernel
theorem d_303_14 : decode (mC 303) 14 = .ok (.iload_n 3, 1) := by decide +kernel
theorem d_303_15 : decode (mC 303) 15 = .ok (.aload_n 0, 1) := by decide +kernel
theorem d_303_16 : decode (mC 303) 16 = .ok (.getfield 303, 3) := by decide +kernel
theorem cn_303 : (mN 303).cls = "CordLoftModel" := by decide +kernel
theorem d_303_19 : decode (mC 303) 19 = .ok (.if_icmp .ge 50, 3) := by decide +kernel
theorem d_303_22 : decode (mC 303) 22 = .ok (.iload_n 2, 1) := by decide +kernel
theorem d_303_23 : decode (mC 303) 23 = .ok (.iload_n 3, 1) := by decide +kernel
theorem d_303_24 : decode (mC 303) 24 = .ok (.iload_n 1, 1) := by decide +kernel
theorem d_303_25 : decode (mC 303) 25 = .ok (.if_icmp .eq 30, 3) := by decide +kernel
theorem d_303_28 : decode (mC 303) 28 = .ok (.aload_n 0, 1) := by decide +kernel
theorem d_303_29 : decode (mC 303) 29 = .ok (.iload_n 3, 1) := by decide +kernel
theorem d_303_30 : decode (mC 303) 30 = .ok (.invokevirtual 293, 3) := by decide +kernel
theorem vk_303_293 : VK 303 293 244 1 12 := ⟨⟨List.mem_of_getElem? (i := 1693) (by decide +kernel), by decide +kernel⟩, List.mem_of_getElem? (i := 1695) (by decide +kernel), mo_244, m0_244, _, rfl, List.mem_of_getElem? (i := 62) (by decide +kernel), by decide⟩
theorem d_303_33 : decode (mC 303) 33 = .ok (.aload_n 0, 1) := by decide +kernel
theorem d_303_34 : decode (mC 303) 34 = .ok (.invokevirtual 429, 3) := by decide +kernel
theorem vk_303_429 : VK 303 429 268 0 12 := ⟨⟨List.mem_of_getElem? (i := 1786) (by decide +kernel), by decide +kernel⟩, List.mem_of_getElem? (i := 1788) (by decide +kernel), mo_268, m0_268, _, rfl, List.mem_of_getElem? (i := 73) (by decide +kernel), by decide⟩
theorem d_303_37 : decode (mC 303) 37 = .ok (.iand, 1) := by decide +kernel
theorem d_303_38 : decode (mC 303) 38 = .ok (.aload_n 0, 1) := by decide +kernel
theorem d_303_39 : decode (mC 303) 39 = .ok (.iload_n 1, 1) := by decide +kernel
theorem d_303_40 : decode (mC 303) 40 = .ok (.invokevirtual 293, 3) := by decide +kernel
theorem d_303_43 : decode (mC 303) 43 = .ok (.aload_n 0, 1) := by decide +kernel
theorem d_303_44 : decode (mC 303) 44 = .ok (.invokevirtual 429, 3) := by decide +kernel
theorem d_303_47 : decode (mC 303) 47 = .ok (.iand, 1) := by decide +kernel
theorem d_303_48 : decode (mC 303) 48 = .ok (.if_icmp .ne 7, 3) := by decide +kernel
theorem d_303_51 : decode (mC 303) 51 = .ok (.iconst 1, 1) := by decide +kernel
theorem d_303_52 : decode (mC 303) 52 = .ok (.goto 4, 3) := by decide +kernel
theorem d_303_0 : decode (mC 303) 0 = .ok (.aload_n 0, 1) := by decide +kernel
theorem d_303_1 : decode (mC 303) 1 = .ok (.iload_n 1, 1) := by decide +kernel
theorem d_303_2 : decode (mC 303) 2 = .ok (.invokevirtual 402, 3) := by decide +kernel
theorem vk_303_402 : VK 303 402 242 1 12 := ⟨⟨List.mem_of_getElem? (i := 1686) (by decide +kernel), by decide +kernel⟩, List.mem_of_getElem? (i := 1688) (by decide +kernel), mo_242, m0_242, _, rfl, List.mem_of_getElem? (i := 61) (by decide +kernel), by decide⟩
theorem d_303_5 : decode (mC 303) 5 = .ok (.ifCond .ne 5, 3) := by decide +kernel
theorem d_303_10 : decode (mC 303) 10 = .ok (.iconst 0, 1) := by decide +kernel
theorem d_303_11 : decode (mC 303) 11 = .ok (.istore_n 2, 1) := by decide +kernel
theorem d_303_12 : decode (mC 303) 12 = .ok (.iconst 0, 1) := by decide +kernel
theorem d_303_13 : decode (mC 303) 13 = .ok (.istore_n 3, 1) := by decide +kernel
theorem d_303_69 : decode (mC 303) 69 = .ok (.iload_n 2, 1) := by decide +kernel
theorem d_303_70 : decode (mC 303) 70 = .ok (.ireturn, 1) := by decide +kernel
theorem mr_303 : mR 303 = some .int := by decide +kernel
theorem d_303_8 : decode (mC 303) 8 = .ok (.iconst (-1), 1) := by decide +kernel
theorem d_303_9 : decode (mC 303) 9 = .ok (.ireturn, 1) := by decide +kernel
theorem d_304_31 : decode (mC 304) 31 = .ok (.invokestatic 283, 3) := by decide +kernel
theorem sk_304_283 : SKc 304 283 259 1 := ⟨⟨List.mem_of_getElem? (i := 1752) (by decide +kernel), by decide +kernel⟩, List.mem_of_getElem? (i := 1753) (by decide +kernel), mo_259, m0_259⟩
theorem d_304_34 : decode (mC 304) 34 = .ok (.iload_n 2, 1) := by decide +kernel
theorem d_304_35 : decode (mC 304) 35 = .ok (.ishl, 1) := by decide +kernel
theorem d_304_36 : decode (mC 304) 36 = .ok (.ior, 1) := by decide +kernel
theorem d_304_37 : decode (mC 304) 37 = .ok (.istore_n 1, 1) := by decide +kernel
theorem ml_304 : mL 304 = 3 := by decide +kernel
theorem d_304_38 : decode (mC 304) 38 = .ok (.iinc 2 1, 3) := by decide +kernel
theorem d_304_41 : decode (mC 304) 41 = .ok (.goto (-37), 3) := by decide +kernel
theorem d_304_4 : decode (mC 304) 4 = .ok (.iload_n 2, 1) := by decide +kernel
theorem d_304_5 : decode (mC 304) 5 = .ok (.aload_n 0, 1) := by decide +kernel
theorem d_304_6 : decode (mC 304) 6 = .ok (.getfield 303, 3) := by decide +kernel
theorem cn_304 : (mN 304).cls = "CordLoftModel" := by decide +kernel
theorem d_304_9 : decode (mC 304) 9 = .ok (.if_icmp .ge 35, 3) := by decide +kernel
theorem d_304_12 : decode (mC 304) 12 = .ok (.iload_n 1, 1) := by decide +kernel
theorem d_304_13 : decode (mC 304) 13 = .ok (.aload_n 0, 1) := by decide +kernel
theorem d_304_14 : decode (mC 304) 14 = .ok (.iload_n 2, 1) := by decide +kernel
theorem d_304_15 : decode (mC 304) 15 = .ok (.invokevirtual 293, 3) := by decide +kernel
theorem vk_304_293 : VK 304 293 244 1 12 := ⟨⟨List.mem_of_getElem? (i := 1693) (by decide +kernel), by decide +kernel⟩, List.mem_of_getElem? (i := 1695) (by decide +kernel), mo_244, m0_244, _, rfl, List.mem_of_getElem? (i := 62) (by decide +kernel), by decide⟩
theorem d_304_18 : decode (mC 304) 18 = .ok (.aload_n 0, 1) := by decide +kernel
theorem d_304_19 : decode (mC 304) 19 = .ok (.invokevirtual 429, 3) := by decide +kernel
theorem vk_304_429 : VK 304 429 268 0 12 := ⟨⟨List.mem_of_getElem? (i := 1786) (by decide +kernel), by decide +kernel⟩, List.mem_of_getElem? (i := 1788) (by decide +kernel), mo_268, m0_268, _, rfl, List.mem_of_getElem? (i := 73) (by decide +kernel), by decide⟩
theorem d_304_22 : decode (mC 304) 22 = .ok (.iand, 1) := by decide +kernel
theorem d_304_23 : decode (mC 304) 23 = .ok (.ifCond .ne 7, 3) := by decide +kernel
theorem d_304_30 : decode (mC 304) 30 = .ok (.iconst 0, 1) := by decide +kernel
theorem d_304_26 : decode (mC 304) 26 = .ok (.iconst 1, 1) := by decide +kernel
theorem d_304_27 : decode (mC 304) 27 = .ok (.goto 4, 3) := by decide +kernel
theorem d_304_0 : decode (mC 304) 0 = .ok (.iconst 0, 1) := by decide +kernel
theorem d_304_1 : decode (mC 304) 1 = .ok (.istore_n 1, 1) := by decide +kernel
theorem d_304_2 : decode (mC 304) 2 = .ok (.iconst 0, 1) := by decide +kernel
theorem d_304_3 : decode (mC 304) 3 = .ok (.istore_n 2, 1) := by decide +kernel
theorem d_304_44 : decode (mC 304) 44 = .ok (.iload_n 1, 1) := by decide +kernel
theorem d_304_45 : decode (mC 304) 45 = .ok (.ireturn, 1) := by decide +kernel
theorem mr_304 : mR 304 = some .int := by decide +kernel
theorem d_305_0 : decode (mC 305) 0 = .ok (.aload_n 0, 1) := by decide +kernel
theorem d_305_1 : decode (mC 305) 1 = .ok (.getfield 66, 3) := by decide +kernel
theorem cn_305 : (mN 305).cls = "CordLoftModel" := by decide +kernel
theorem d_305_4 : decode (mC 305) 4 = .ok (.iconst 0, 1) := by decide +kernel
theorem d_305_5 : decode (mC 305) 5 = .ok (.iaload, 1) := by decide +kernel
theorem d_305_6 : decode (mC 305) 6 = .ok (.invokestatic 290, 3) := by decide +kernel
theorem sk_305_290 : SKc 305 290 250 1 := ⟨⟨List.mem_of_getElem? (i := 1717) (by decide +kernel), by decide +kernel⟩, List.mem_of_getElem? (i := 1718) (by decide +kernel), mo_250, m0_250⟩
theorem d_305_9 : decode (mC 305) 9 = .ok (.ireturn, 1) := by decide +kernel
theorem mr_305 : mR 305 = some .int := by decide +kernel
theorem ml_305 : mL 305 = 1 := by decide +kernel
theorem d_306_0 : decode (mC 306) 0 = .ok (.aload_n 0, 1) := by decide +kernel
theorem d_306_1 : decode (mC 306) 1 = .ok (.aload_n 0, 1) := by decide +kernel
theorem d_306_2 : decode (mC 306) 2 = .ok (.getfield 66, 3) := by decide +kernel
theorem cn_306 : (mN 306).cls = "CordLoftModel" := by decide +kernel
theorem d_306_5 : decode (mC 306) 5 = .ok (.iconst 0, 1) := by decide +kernel
theorem d_306_6 : decode (mC 306) 6 = .ok (.iaload, 1) := by decide +kernel
theorem d_306_7 : decode (mC 306) 7 = .ok (.invokevirtual 463, 3) := by decide +kernel
theorem vk_306_463 : VK 306 463 285 1 12 := ⟨⟨List.mem_of_getElem? (i := 1854) (by decide +kernel), by decide +kernel⟩, List.mem_of_getElem? (i := 1856) (by decide +kernel), mo_285, m0_285, _, rfl, List.mem_of_getElem? (i := 80) (by decide +kernel), by decide⟩
theorem d_306_10 : decode (mC 306) 10 = .ok (.ireturn, 1) := by decide +kernel
theorem mr_306 : mR 306 = some .int := by decide +kernel
theorem ml_306 : mL 306 = 1 := by decide +kernel
theorem d_307_4 : decode (mC 307) 4 = .ok (.iload_n 2, 1) := by decide +kernel
theorem d_307_5 : decode (mC 307) 5 = .ok (.aload_n 0, 1) := by decide +kernel
theorem d_307_6 : decode (mC 307) 6 = .ok (.getfield 369, 3) := by decide +kernel
theorem cn_307 : (mN 307).cls = "CordLoftModel" := by decide +kernel
theorem d_307_9 : decode (mC 307) 9 = .ok (.if_icmp .ge 36, 3) := by decide +kernel
theorem d_307_12 : decode (mC 307) 12 = .ok (.iload_n 1, 1) := by decide +kernel
theorem d_307_13 : decode (mC 307) 13 = .ok (.ifCond .lt 24, 3) := by decide +kernel
theorem d_307_37 : decode (mC 307) 37 = .ok (.iload_n 2, 1) := by decide +kernel
theorem d_307_38 : decode (mC 307) 38 = .ok (.istore_n 1, 1) := by decide +kernel
theorem ml_307 : mL 307 = 3 := by decide +kernel
theorem d_307_39 : decode (mC 307) 39 = .ok (.iinc 2 1, 3) := by decide +kernel
theorem d_307_42 : decode (mC 307) 42 = .ok (.goto (-38), 3) := by decide +kernel
theorem d_307_16 : decode (mC 307) 16 = .ok (.aload_n 0, 1) := by decide +kernel
theorem d_307_17 : decode (mC 307) 17 = .ok (.getfield 60, 3) := by decide +kernel
theorem d_307_20 : decode (mC 307) 20 = .ok (.iload_n 2, 1) := by decide +kernel
theorem d_307_21 : decode (mC 307) 21 = .ok (.iaload, 1) := by decide +kernel
theorem d_307_22 : decode (mC 307) 22 = .ok (.invokestatic 290, 3) := by decide +kernel
theorem sk_307_290 : SKc 307 290 250 1 := ⟨⟨List.mem_of_getElem? (i := 1717) (by decide +kernel), by decide +kernel⟩, List.mem_of_getElem? (i := 1718) (by decide +kernel), mo_250, m0_250⟩
theorem d_307_25 : decode (mC 307) 25 = .ok (.aload_n 0, 1) := by decide +kernel
theorem d_307_26 : decode (mC 307) 26 = .ok (.getfield 60, 3) := by decide +kernel
theorem d_307_29 : decode (mC 307) 29 = .ok (.iload_n 1, 1) := by decide +kernel
theorem d_307_30 : decode (mC 307) 30 = .ok (.iaload, 1) := by decide +kernel
theorem d_307_31 : decode (mC 307) 31 = .ok (.invokestatic 290, 3) := by decide +kernel
theorem d_307_34 : decode (mC 307) 34 = .ok (.if_icmp .le 5, 3) := by decide +kernel
theorem d_307_0 : decode (mC 307) 0 = .ok (.iconst (-1), 1) := by decide +kernel
theorem d_307_1 : decode (mC 307) 1 = .ok (.istore_n 1, 1) := by decide +kernel
theorem d_307_2 : decode (mC 307) 2 = .ok (.iconst 0, 1) := by decide +kernel
theorem d_307_3 : decode (mC 307) 3 = .ok (.istore_n 2, 1) := by decide +kernel
theorem d_307_45 : decode (mC 307) 45 = .ok (.iload_n 1, 1) := by decide +kernel
theorem d_307_46 : decode (mC 307) 46 = .ok (.ireturn, 1) := by decide +kernel
theorem mr_307 : mR 307 = some .int := by decide +kernel
theorem d_308_4 : decode (mC 308) 4 = .ok (.iload_n 2, 1) := by decide +kernel
theorem d_308_5 : decode (mC 308) 5 = .ok (.aload_n 0, 1) := by decide +kernel
theorem d_308_6 : decode (mC 308) 6 = .ok (.getfield 369, 3) := by decide +kernel
theorem cn_308 : (mN 308).cls = "CordLoftModel" := by decide +kernel
theorem d_308_9 : decode (mC 308) 9 = .ok (.if_icmp .ge 38, 3) := by decide +kernel
theorem d_308_12 : decode (mC 308) 12 = .ok (.aload_n 0, 1) := by decide +kernel
theorem d_308_13 : decode (mC 308) 13 = .ok (.iload_n 2, 1) := by decide +kernel
theorem d_308_14 : decode (mC 308) 14 = .ok (.invokevirtual 408, 3) := by decide +kernel
theorem vk_308_408 : VK 308 408 249 1 12 := ⟨⟨List.mem_of_getElem? (i := 1713) (by decide +kernel), by decide +kernel⟩, List.mem_of_getElem? (i := 1715) (by decide +kernel), mo_249, m0_249, _, rfl, List.mem_of_getElem? (i := 64) (by decide +kernel), by decide⟩
theorem d_308_17 : decode (mC 308) 17 = .ok (.ifCond .ne 24, 3) := by decide +kernel
theorem d_308_41 : decode (mC 308) 41 = .ok (.iinc 2 1, 3) := by decide +kernel
theorem ml_308 : mL 308 = 3 := by decide +kernel
theorem d_308_44 : decode (mC 308) 44 = .ok (.goto (-40), 3) := by decide +kernel
theorem d_308_20 : decode (mC 308) 20 = .ok (.iload_n 1, 1) := by decide +kernel
theorem d_308_21 : decode (mC 308) 21 = .ok (.ifCond .lt 18, 3) := by decide +kernel
theorem d_308_39 : decode (mC 308) 39 = .ok (.iload_n 2, 1) := by decide +kernel
theorem d_308_40 : decode (mC 308) 40 = .ok (.istore_n 1, 1) := by decide +kernel
theorem d_308_24 : decode (mC 308) 24 = .ok (.aload_n 0, 1) := by decide +kernel
theorem d_308_25 : decode (mC 308) 25 = .ok (.getfield 63, 3) := by decide +kernel
theorem d_308_28 : decode (mC 308) 28 = .ok (.iload_n 2, 1) := by decide +kernel
theorem d_308_29 : decode (mC 308) 29 = .ok (.iaload, 1) := by decide +kernel
theorem d_308_30 : decode (mC 308) 30 = .ok (.aload_n 0, 1) := by decide +kernel
theorem d_308_31 : decode (mC 308) 31 = .ok (.getfield 63, 3) := by decide +kernel
theorem d_308_34 : decode (mC 308) 34 = .ok (.iload_n 1, 1) := by decide +kernel
theorem d_308_35 : decode (mC 308) 35 = .ok (.iaload, 1) := by decide +kernel
theorem d_308_36 : decode (mC 308) 36 = .ok (.if_icmp .le 5, 3) := by decide +kernel
theorem d_308_0 : decode (mC 308) 0 = .ok (.iconst (-1), 1) := by decide +kernel
theorem d_308_1 : decode (mC 308) 1 = .ok (.istore_n 1, 1) := by decide +kernel
theorem d_308_2 : decode (mC 308) 2 = .ok (.iconst 0, 1) := by decide +kernel
theorem d_308_3 : decode (mC 308) 3 = .ok (.istore_n 2, 1) := by decide +kernel
theorem d_308_47 : decode (mC 308) 47 = .ok (.iload_n 1, 1) := by decide +kernel
theorem d_308_48 : decode (mC 308) 48 = .ok (.ireturn, 1) := by decide +kernel
theorem mr_308 : mR 308 = some .int := by decide +kernel
theorem d_309_41 : decode (mC 309) 41 = .ok (.invokestatic 283, 3) := by decide +kernel
theorem sk_309_283 : SKc 309 283 259 1 := ⟨⟨List.mem_of_getElem? (i := 1752) (by decide +kernel), by decide +kernel⟩, List.mem_of_getElem? (i := 1753) (by decide +kernel), mo_259, m0_259⟩
theorem d_309_44 : decode (mC 309) 44 = .ok (.iload_n 2, 1) := by decide +kernel
theorem d_309_45 : decode (mC 309) 45 = .ok (.ishl, 1) := by decide +kernel
theorem d_309_46 : decode (mC 309) 46 = .ok (.ior, 1) := by decide +kernel
theorem d_309_47 : decode (mC 309) 47 = .ok (.istore_n 1, 1) := by decide +kernel
theorem ml_309 : mL 309 = 3 := by decide +kernel
theorem d_309_48 : decode (mC 309) 48 = .ok (.iinc 2 1, 3) := by decide +kernel
theorem d_309_51 : decode (mC 309) 51 = .ok (.goto (-47), 3) := by decide +kernel
theorem d_309_40 : decode (mC 309) 40 = .ok (.iconst 0, 1) := by decide +kernel
theorem d_309_4 : decode (mC 309) 4 = .ok (.iload_n 2, 1) := by decide +kernel
theorem d_309_5 : decode (mC 309) 5 = .ok (.aload_n 0, 1) := by decide +kernel
theorem d_309_6 : decode (mC 309) 6 = .ok (.getfield 369, 3) := by decide +kernel
theorem cn_309 : (mN 309).cls = "CordLoftModel" := by decide +kernel
theorem d_309_9 : decode (mC 309) 9 = .ok (.if_icmp .ge 45, 3) := by decide +kernel
theorem d_309_12 : decode (mC 309) 12 = .ok (.iload_n 1, 1) := by decide +kernel
theorem d_309_13 : decode (mC 309) 13 = .ok (.aload_n 0, 1) := by decide +kernel
theorem d_309_14 : decode (mC 309) 14 = .ok (.iload_n 2, 1) := by decide +kernel
theorem d_309_15 : decode (mC 309) 15 = .ok (.invokevirtual 408, 3) := by decide +kernel
theorem vk_309_408 : VK 309 408 249 1 12 := ⟨⟨List.mem_of_getElem? (i := 1713) (by decide +kernel), by decide +kernel⟩, List.mem_of_getElem? (i := 1715) (by decide +kernel), mo_249, m0_249, _, rfl, List.mem_of_getElem? (i := 64) (by decide +kernel), by decide⟩
theorem d_309_18 : decode (mC 309) 18 = .ok (.ifCond .ne 22, 3) := by decide +kernel
theorem d_309_21 : decode (mC 309) 21 = .ok (.aload_n 0, 1) := by decide +kernel
theorem d_309_22 : decode (mC 309) 22 = .ok (.getfield 60, 3) := by decide +kernel
theorem d_309_25 : decode (mC 309) 25 = .ok (.iload_n 2, 1) := by decide +kernel
theorem d_309_26 : decode (mC 309) 26 = .ok (.iaload, 1) := by decide +kernel
theorem d_309_27 : decode (mC 309) 27 = .ok (.invokestatic 290, 3) := by decide +kernel
theorem sk_309_290 : SKc 309 290 250 1 := ⟨⟨List.mem_of_getElem? (i := 1717) (by decide +kernel), by decide +kernel⟩, List.mem_of_getElem? (i := 1718) (by decide +kernel), mo_250, m0_250⟩
theorem d_309_30 : decode (mC 309) 30 = .ok (.iconst 2, 1) := by decide +kernel
theorem d_309_31 : decode (mC 309) 31 = .ok (.irem, 1) := by decide +kernel
theorem d_309_32 : decode (mC 309) 32 = .ok (.iconst 1, 1) := by decide +kernel
theorem d_309_33 : decode (mC 309) 33 = .ok (.if_icmp .ne 7, 3) := by decide +kernel
theorem d_309_36 : decode (mC 309) 36 = .ok (.iconst 1, 1) := by decide +kernel
theorem d_309_37 : decode (mC 309) 37 = .ok (.goto 4, 3) := by decide +kernel
theorem d_309_0 : decode (mC 309) 0 = .ok (.iconst 0, 1) := by decide +kernel
theorem d_309_1 : decode (mC 309) 1 = .ok (.istore_n 1, 1) := by decide +kernel
theorem d_309_2 : decode (mC 309) 2 = .ok (.iconst 0, 1) := by decide +kernel
theorem d_309_3 : decode (mC 309) 3 = .ok (.istore_n 2, 1) := by decide +kernel
theorem d_309_54 : decode (mC 309) 54 = .ok (.iload_n 1, 1) := by decide +kernel
theorem d_309_55 : decode (mC 309) 55 = .ok (.ireturn, 1) := by decide +kernel
theorem mr_309 : mR 309 = some .int := by decide +kernel
theorem d_310_57 : decode (mC 310) 57 = .ok (.iconst 0, 1) := by decide +kernel
theorem d_310_58 : decode (mC 310) 58 = .ok (.ixor, 1) := by decide +kernel
theorem d_310_59 : decode (mC 310) 59 = .ok (.istore_n 2, 1) := by decide +kernel
theorem ml_310 : mL 310 = 4 := by decide +kernel
theorem d_310_60 : decode (mC 310) 60 = .ok (.iinc 3 1, 3) := by decide +kernel
theorem d_310_63 : decode (mC 310) 63 = .ok (.goto (-42), 3) := by decide +kernel
theorem d_310_21 : decode (mC 310) 21 = .ok (.iload_n 3, 1) := by decide +kernel
theorem d_310_22 : decode (mC 310) 22 = .ok (.aload_n 0, 1) := by decide +kernel
theorem d_310_23 : decode (mC 310) 23 = .ok (.getfield 369, 3) := by decide +kernel
theorem cn_310 : (mN 310).cls = "CordLoftModel" := by decide +kernel
theorem d_310_26 : decode (mC 310) 26 = .ok (.if_icmp .ge 40, 3) := by decide +kernel
theorem d_310_29 : decode (mC 310) 29 = .ok (.iload_n 2, 1) := by decide +kernel
theorem d_310_30 : decode (mC 310) 30 = .ok (.aload_n 0, 1) := by decide +kernel
theorem d_310_31 : decode (mC 310) 31 = .ok (.iload_n 3, 1) := by decide +kernel
theorem d_310_32 : decode (mC 310) 32 = .ok (.invokevirtual 408, 3) := by decide +kernel
theorem vk_310_408 : VK 310 408 249 1 12 := ⟨⟨List.mem_of_getElem? (i := 1713) (by decide +kernel), by decide +kernel⟩, List.mem_of_getElem? (i := 1715) (by decide +kernel), mo_249, m0_249, _, rfl, List.mem_of_getElem? (i := 64) (by decide +kernel), by decide⟩
theorem d_310_35 : decode (mC 310) 35 = .ok (.ifCond .ne 22, 3) := by decide +kernel
theorem d_310_38 : decode (mC 310) 38 = .ok (.aload_n 0, 1) := by decide +kernel
theorem d_310_39 : decode (mC 310) 39 = .ok (.getfield 63, 3) := by decide +kernel
theorem d_310_42 : decode (mC 310) 42 = .ok (.iload_n 3, 1) := by decide +kernel
theorem d_310_43 : decode (mC 310) 43 = .ok (.iaload, 1) := by decide +kernel
theorem d_310_44 : decode (mC 310) 44 = .ok (.iload_n 1, 1) := by decide +kernel
theorem d_310_45 : decode (mC 310) 45 = .ok (.if_icmp .gt 12, 3) := by decide +kernel
theorem d_310_48 : decode (mC 310) 48 = .ok (.aload_n 0, 1) := by decide +kernel
theorem d_310_49 : decode (mC 310) 49 = .ok (.getfield 60, 3) := by decide +kernel
theorem d_310_52 : decode (mC 310) 52 = .ok (.iload_n 3, 1) := by decide +kernel
theorem d_310_53 : decode (mC 310) 53 = .ok (.iaload, 1) := by decide +kernel
theorem d_310_54 : decode (mC 310) 54 = .ok (.goto 4, 3) := by decide +kernel
theorem d_310_0 : decode (mC 310) 0 = .ok (.iload_n 1, 1) := by decide +kernel
theorem d_310_1 : decode (mC 310) 1 = .ok (.iconst 0, 1) := by decide +kernel
theorem d_310_2 : decode (mC 310) 2 = .ok (.bipush 20, 2) := by decide +kernel
theorem d_310_4 : decode (mC 310) 4 = .ok (.invokestatic 399, 3) := by decide +kernel
theorem sk_310_399 : SKc 310 399 243 3 := ⟨⟨List.mem_of_getElem? (i := 1690) (by decide +kernel), by decide +kernel⟩, List.mem_of_getElem? (i := 1691) (by decide +kernel), mo_243, m0_243⟩
theorem d_310_7 : decode (mC 310) 7 = .ok (.ifCond .ne 5, 3) := by decide +kernel
theorem d_310_12 : decode (mC 310) 12 = .ok (.aload_n 0, 1) := by decide +kernel
theorem d_310_13 : decode (mC 310) 13 = .ok (.getfield 66, 3) := by decide +kernel
theorem d_310_16 : decode (mC 310) 16 = .ok (.iconst 0, 1) := by decide +kernel
theorem d_310_17 : decode (mC 310) 17 = .ok (.iaload, 1) := by decide +kernel
theorem d_310_18 : decode (mC 310) 18 = .ok (.istore_n 2, 1) := by decide +kernel
theorem d_310_19 : decode (mC 310) 19 = .ok (.iconst 0, 1) := by decide +kernel
theorem d_310_20 : decode (mC 310) 20 = .ok (.istore_n 3, 1) := by decide +kernel
theorem d_310_66 : decode (mC 310) 66 = .ok (.iload_n 2, 1) := by decide +kernel
theorem d_310_67 : decode (mC 310) 67 = .ok (.invokestatic 290, 3) := by decide +kernel
theorem sk_310_290 : SKc 310 290 250 1 := ⟨⟨List.mem_of_getElem? (i := 1717) (by decide +kernel), by decide +kernel⟩, List.mem_of_getElem? (i := 1718) (by decide +kernel), mo_250, m0_250⟩
theorem d_310_70 : decode (mC 310) 70 = .ok (.ireturn, 1) := by decide +kernel
theorem mr_310 : mR 310 = some .int := by decide +kernel
theorem d_310_10 : decode (mC 310) 10 = .ok (.iconst (-1), 1) := by decide +kernel
theorem d_310_11 : decode (mC 310) 11 = .ok (.ireturn, 1) := by decide +kernel
theorem d_312_4 : decode (mC 312) 4 = .ok (.iload_n 3, 1) := by decide +kernel
theorem d_312_5 : decode (mC 312) 5 = .ok (.iload_n 1, 1) := by decide +kernel
theorem d_312_6 : decode (mC 312) 6 = .ok (.if_icmp .ge 13, 3) := by decide +kernel
theorem d_312_9 : decode (mC 312) 9 = .ok (.iload_n 2, 1) := by decide +kernel
theorem d_312_10 : decode (mC 312) 10 = .ok (.iload_n 0, 1) := by decide +kernel
theorem d_312_11 : decode (mC 312) 11 = .ok (.imul, 1) := by decide +kernel
theorem d_312_12 : decode (mC 312) 12 = .ok (.istore_n 2, 1) := by decide +kernel
theorem ml_312 : mL 312 = 4 := by decide +kernel
theorem d_312_13 : decode (mC 312) 13 = .ok (.iinc 3 1, 3) := by decide +kernel
theorem d_312_16 : decode (mC 312) 16 = .ok (.goto (-12), 3) := by decide +kernel
theorem d_312_0 : decode (mC 312) 0 = .ok (.iconst 1, 1) := by decide +kernel
theorem d_312_1 : decode (mC 312) 1 = .ok (.istore_n 2, 1) := by decide +kernel
theorem d_312_2 : decode (mC 312) 2 = .ok (.iconst 0, 1) := by decide +kernel
theorem d_312_3 : decode (mC 312) 3 = .ok (.istore_n 3, 1) := by decide +kernel
theorem d_312_19 : decode (mC 312) 19 = .ok (.iload_n 2, 1) := by decide +kernel
theorem d_312_20 : decode (mC 312) 20 = .ok (.ireturn, 1) := by decide +kernel
theorem mr_312 : mR 312 = some .int := by decide +kernel
theorem d_313_4 : decode (mC 313) 4 = .ok (.iload_n 3, 1) := by decide +kernel
theorem d_313_5 : decode (mC 313) 5 = .ok (.ifCond .le 16, 3) := by decide +kernel
theorem d_313_8 : decode (mC 313) 8 = .ok (.iload_n 2, 1) := by decide +kernel
theorem d_313_9 : decode (mC 313) 9 = .ok (.iload_n 3, 1) := by decide +kernel
theorem d_313_10 : decode (mC 313) 10 = .ok (.irem, 1) := by decide +kernel
theorem d_313_11 : decode (mC 313) 11 = .ok (.istore 4, 2) := by decide +kernel
theorem ml_313 : mL 313 = 5 := by decide +kernel
theorem d_313_13 : decode (mC 313) 13 = .ok (.iload_n 3, 1) := by decide +kernel
theorem d_313_14 : decode (mC 313) 14 = .ok (.istore_n 2, 1) := by decide +kernel
theorem d_313_15 : decode (mC 313) 15 = .ok (.iload 4, 2) := by decide +kernel
theorem d_313_17 : decode (mC 313) 17 = .ok (.istore_n 3, 1) := by decide +kernel
theorem d_313_18 : decode (mC 313) 18 = .ok (.goto (-14), 3) := by decide +kernel
theorem d_313_0 : decode (mC 313) 0 = .ok (.iload_n 0, 1) := by decide +kernel
theorem d_313_1 : decode (mC 313) 1 = .ok (.istore_n 2, 1) := by decide +kernel
theorem d_313_2 : decode (mC 313) 2 = .ok (.iload_n 1, 1) := by decide +kernel
theorem d_313_3 : decode (mC 313) 3 = .ok (.istore_n 3, 1) := by decide +kernel
theorem d_313_21 : decode (mC 313) 21 = .ok (.iload_n 2, 1) := by decide +kernel
theorem d_313_22 : decode (mC 313) 22 = .ok (.ireturn, 1) := by decide +kernel
theorem mr_313 : mR 313 = some .int := by decide +kernel
theorem d_311_0 : decode (mC 311) 0 = .ok (.iload_n 1, 1) := by decide +kernel
theorem d_311_1 : decode (mC 311) 1 = .ok (.iconst 0, 1) := by decide +kernel
theorem d_311_2 : decode (mC 311) 2 = .ok (.iconst 4, 1) := by decide +kernel
theorem d_311_3 : decode (mC 311) 3 = .ok (.invokestatic 399, 3) := by decide +kernel
theorem sk_311_399 : SKc 311 399 243 3 := ⟨⟨List.mem_of_getElem? (i := 1690) (by decide +kernel), by decide +kernel⟩, List.mem_of_getElem? (i := 1691) (by decide +kernel), mo_243, m0_243⟩
theorem d_311_6 : decode (mC 311) 6 = .ok (.ifCond .eq 12, 3) := by decide +kernel
theorem d_311_18 : decode (mC 311) 18 = .ok (.iconst (-1), 1) := by decide +kernel
theorem d_311_19 : decode (mC 311) 19 = .ok (.ireturn, 1) := by decide +kernel
theorem mr_311 : mR 311 = some .int := by decide +kernel
theorem d_311_9 : decode (mC 311) 9 = .ok (.iload_n 2, 1) := by decide +kernel
theorem d_311_10 : decode (mC 311) 10 = .ok (.iconst 0, 1) := by decide +kernel
theorem d_311_11 : decode (mC 311) 11 = .ok (.iconst 1, 1) := by decide +kernel
theorem d_311_12 : decode (mC 311) 12 = .ok (.invokestatic 399, 3) := by decide +kernel
theorem d_311_15 : decode (mC 311) 15 = .ok (.ifCond .ne 5, 3) := by decide +kernel
theorem d_311_20 : decode (mC 311) 20 = .ok (.bipush 100, 2) := by decide +kernel
theorem d_311_22 : decode (mC 311) 22 = .ok (.aload_n 0, 1) := by decide +kernel
theorem d_311_23 : decode (mC 311) 23 = .ok (.getfield 378, 3) := by decide +kernel
theorem cn_311 : (mN 311).cls = "CordLoftModel" := by decide +kernel
theorem d_311_26 : decode (mC 311) 26 = .ok (.isub, 1) := by decide +kernel
theorem d_311_27 : decode (mC 311) 27 = .ok (.iload_n 1, 1) := by decide +kernel
theorem d_311_28 : decode (mC 311) 28 = .ok (.invokestatic 479, 3) := by decide +kernel
theorem mo_312 : MOK 312 := ⟨List.mem_of_getElem? (i := 1965) (by decide +kernel), by decide +kernel, ⟨by decide +kernel, by decide +kernel⟩, List.mem_of_getElem? (i := 100) (by decide +kernel), by decide +kernel⟩
theorem m0_312 : M0K 312 := ⟨by decide +kernel, by decide +kernel⟩
theorem sk_311_479 : SKc 311 479 312 2 := ⟨⟨List.mem_of_getElem? (i := 1963) (by decide +kernel), by decide +kernel⟩, List.mem_of_getElem? (i := 1964) (by decide +kernel), mo_312, m0_312⟩
theorem d_311_31 : decode (mC 311) 31 = .ok (.istore_n 3, 1) := by decide +kernel
theorem ml_311 : mL 311 = 6 := by decide +kernel
theorem d_311_32 : decode (mC 311) 32 = .ok (.bipush 100, 2) := by decide +kernel
theorem d_311_34 : decode (mC 311) 34 = .ok (.iload_n 1, 1) := by decide +kernel
theorem d_311_35 : decode (mC 311) 35 = .ok (.invokestatic 479, 3) := by decide +kernel
theorem d_311_38 : decode (mC 311) 38 = .ok (.istore 4, 2) := by decide +kernel
theorem d_311_40 : decode (mC 311) 40 = .ok (.iload 4, 2) := by decide +kernel
theorem d_311_42 : decode (mC 311) 42 = .ok (.iload_n 3, 1) := by decide +kernel
theorem d_311_43 : decode (mC 311) 43 = .ok (.invokestatic 482, 3) := by decide +kernel
theorem mo_313 : MOK 313 := ⟨List.mem_of_getElem? (i := 1968) (by decide +kernel), by decide +kernel, ⟨by decide +kernel, by decide +kernel⟩, List.mem_of_getElem? (i := 100) (by decide +kernel), by decide +kernel⟩
theorem m0_313 : M0K 313 := ⟨by decide +kernel, by decide +kernel⟩
theorem sk_311_482 : SKc 311 482 313 2 := ⟨⟨List.mem_of_getElem? (i := 1966) (by decide +kernel), by decide +kernel⟩, List.mem_of_getElem? (i := 1967) (by decide +kernel), mo_313, m0_313⟩
theorem d_311_46 : decode (mC 311) 46 = .ok (.istore 5, 2) := by decide +kernel
theorem d_311_48 : decode (mC 311) 48 = .ok (.iload_n 2, 1) := by decide +kernel
theorem d_311_49 : decode (mC 311) 49 = .ok (.ifCond .ne 10, 3) := by decide +kernel
theorem d_311_59 : decode (mC 311) 59 = .ok (.iload 4, 2) := by decide +kernel
theorem d_311_61 : decode (mC 311) 61 = .ok (.iload 5, 2) := by decide +kernel
theorem d_311_63 : decode (mC 311) 63 = .ok (.idiv, 1) := by decide +kernel
theorem d_311_64 : decode (mC 311) 64 = .ok (.ireturn, 1) := by decide +kernel
theorem d_311_52 : decode (mC 311) 52 = .ok (.iload_n 3, 1) := by decide +kernel
theorem d_311_53 : decode (mC 311) 53 = .ok (.iload 5, 2) := by decide +kernel
theorem d_311_55 : decode (mC 311) 55 = .ok (.idiv, 1) := by decide +kernel
theorem d_311_56 : decode (mC 311) 56 = .ok (.goto 8, 3) := by decide +kernel
theorem d_314_0 : decode (mC 314) 0 = .ok (.iload_n 1, 1) := by decide +kernel
theorem d_314_1 : decode (mC 314) 1 = .ok (.iconst 0, 1) := by decide +kernel
theorem d_314_2 : decode (mC 314) 2 = .ok (.aload_n 0, 1) := by decide +kernel
theorem d_314_3 : decode (mC 314) 3 = .ok (.getfield 396, 3) := by decide +kernel
theorem cn_314 : (mN 314).cls = "CordLoftModel" := by decide +kernel
theorem d_314_6 : decode (mC 314) 6 = .ok (.iconst 1, 1) := by decide +kernel
theorem d_314_7 : decode (mC 314) 7 = .ok (.isub, 1) := by decide +kernel
theorem d_314_8 : decode (mC 314) 8 = .ok (.invokestatic 399, 3) := by decide +kernel
theorem sk_314_399 : SKc 314 399 243 3 := ⟨⟨List.mem_of_getElem? (i := 1690) (by decide +kernel), by decide +kernel⟩, List.mem_of_getElem? (i := 1691) (by decide +kernel), mo_243, m0_243⟩
theorem d_314_11 : decode (mC 314) 11 = .ok (.ifCond .eq 12, 3) := by decide +kernel
theorem d_314_23 : decode (mC 314) 23 = .ok (.iconst (-1), 1) := by decide +kernel
theorem d_314_24 : decode (mC 314) 24 = .ok (.ireturn, 1) := by decide +kernel
theorem mr_314 : mR 314 = some .int := by decide +kernel
theorem d_314_14 : decode (mC 314) 14 = .ok (.aload_n 0, 1) := by decide +kernel
theorem d_314_15 : decode (mC 314) 15 = .ok (.getfield 76, 3) := by decide +kernel
theorem d_314_18 : decode (mC 314) 18 = .ok (.iload_n 1, 1) := by decide +kernel
theorem d_314_19 : decode (mC 314) 19 = .ok (.iaload, 1) := by decide +kernel
theorem d_314_20 : decode (mC 314) 20 = .ok (.goto 4, 3) := by decide +kernel
theorem ml_314 : mL 314 = 2 := by decide +kernel
theorem d_315_0 : decode (mC 315) 0 = .ok (.aload_n 0, 1) := by decide +kernel
theorem d_315_1 : decode (mC 315) 1 = .ok (.iload_n 1, 1) := by decide +kernel
theorem d_315_2 : decode (mC 315) 2 = .ok (.invokevirtual 402, 3) := by decide +kernel
theorem vk_315_402 : VK 315 402 242 1 12 := ⟨⟨List.mem_of_getElem? (i := 1686) (by decide +kernel), by decide +kernel⟩, List.mem_of_getElem? (i := 1688) (by decide +kernel), mo_242, m0_242, _, rfl, List.mem_of_getElem? (i := 61) (by decide +kernel), by decide⟩
theorem d_315_5 : decode (mC 315) 5 = .ok (.ifCond .eq 12, 3) := by decide +kernel
theorem d_315_17 : decode (mC 315) 17 = .ok (.iconst (-1), 1) := by decide +kernel
theorem d_315_18 : decode (mC 315) 18 = .ok (.ireturn, 1) := by decide +kernel
theorem mr_315 : mR 315 = some .int := by decide +kernel
theorem d_315_8 : decode (mC 315) 8 = .ok (.aload_n 0, 1) := by decide +kernel
theorem d_315_9 : decode (mC 315) 9 = .ok (.getfield 393, 3) := by decide +kernel
theorem fk_CordLoftModel_393 : FK 0 "CordLoftModel" 393 12 67 := ⟨⟨_, rfl, by decide, List.mem_of_getElem? (i := 1358) (by decide +kernel)⟩, rfl, by decide⟩
theorem cn_315 : (mN 315).cls = "CordLoftModel" := by decide +kernel
theorem d_315_12 : decode (mC 315) 12 = .ok (.bipush 30, 2) := by decide +kernel
theorem d_315_14 : decode (mC 315) 14 = .ok (.if_icmp .ne 5, 3) := by decide +kernel
theorem d_315_19 : decode (mC 315) 19 = .ok (.aload_n 0, 1) := by decide +kernel
theorem d_315_20 : decode (mC 315) 20 = .ok (.getfield 94, 3) := by decide +kernel
theorem fk_CordLoftModel_94 : FK 2 "CordLoftModel" 94 12 63 := ⟨⟨_, rfl, by decide, List.mem_of_getElem? (i := 1354) (by decide +kernel)⟩, rfl, by decide⟩
theorem ft_13_63 : finT 13 63 = some (132, 0) := by decide +kernel
theorem k_132 : kd0 132 = 20 := by decide +kernel
theorem l_132 : ln0 132 = 30 := by decide +kernel
theorem d_315_23 : decode (mC 315) 23 = .ok (.aload_n 0, 1) := by decide +kernel
theorem d_315_24 : decode (mC 315) 24 = .ok (.getfield 393, 3) := by decide +kernel
theorem d_315_27 : decode (mC 315) 27 = .ok (.iload_n 1, 1) := by decide +kernel
theorem d_315_28 : decode (mC 315) 28 = .ok (.iastore, 1) := by decide +kernel
theorem d_315_29 : decode (mC 315) 29 = .ok (.aload_n 0, 1) := by decide +kernel
theorem d_315_30 : decode (mC 315) 30 = .ok (.getfield 103, 3) := by decide +kernel
theorem fk_CordLoftModel_103 : FK 2 "CordLoftModel" 103 12 66 := ⟨⟨_, rfl, by decide, List.mem_of_getElem? (i := 1357) (by decide +kernel)⟩, rfl, by decide⟩
theorem ft_13_66 : finT 13 66 = some (135, 0) := by decide +kernel
theorem k_135 : kd0 135 = 23 := by decide +kernel
theorem l_135 : ln0 135 = 30 := by decide +kernel
theorem d_315_33 : decode (mC 315) 33 = .ok (.aload_n 0, 1) := by decide +kernel
theorem d_315_34 : decode (mC 315) 34 = .ok (.getfield 393, 3) := by decide +kernel
theorem d_315_37 : decode (mC 315) 37 = .ok (.iload_n 2, 1) := by decide +kernel
theorem d_315_38 : decode (mC 315) 38 = .ok (.bastore, 1) := by decide +kernel
theorem d_315_39 : decode (mC 315) 39 = .ok (.aload_n 0, 1) := by decide +kernel
theorem d_315_40 : decode (mC 315) 40 = .ok (.getfield 97, 3) := by decide +kernel
theorem fk_CordLoftModel_97 : FK 2 "CordLoftModel" 97 12 64 := ⟨⟨_, rfl, by decide, List.mem_of_getElem? (i := 1355) (by decide +kernel)⟩, rfl, by decide⟩
theorem ft_13_64 : finT 13 64 = some (133, 0) := by decide +kernel
theorem k_133 : kd0 133 = 20 := by decide +kernel
theorem l_133 : ln0 133 = 30 := by decide +kernel
theorem d_315_43 : decode (mC 315) 43 = .ok (.aload_n 0, 1) := by decide +kernel
theorem d_315_44 : decode (mC 315) 44 = .ok (.getfield 393, 3) := by decide +kernel
theorem d_315_47 : decode (mC 315) 47 = .ok (.aload_n 0, 1) := by decide +kernel
theorem d_315_48 : decode (mC 315) 48 = .ok (.getfield 485, 3) := by decide +kernel
theorem fk_CordLoftModel_485 : FK 0 "CordLoftModel" 485 12 68 := ⟨⟨_, rfl, by decide, List.mem_of_getElem? (i := 1359) (by decide +kernel)⟩, rfl, by decide⟩
theorem d_315_51 : decode (mC 315) 51 = .ok (.iastore, 1) := by decide +kernel
theorem d_315_52 : decode (mC 315) 52 = .ok (.aload_n 0, 1) := by decide +kernel
theorem d_315_53 : decode (mC 315) 53 = .ok (.getfield 100, 3) := by decide +kernel
theorem fk_CordLoftModel_100 : FK 2 "CordLoftModel" 100 12 65 := ⟨⟨_, rfl, by decide, List.mem_of_getElem? (i := 1356) (by decide +kernel)⟩, rfl, by decide⟩
theorem ft_13_65 : finT 13 65 = some (134, 0) := by decide +kernel
theorem k_134 : kd0 134 = 20 := by decide +kernel
theorem l_134 : ln0 134 = 30 := by decide +kernel
theorem d_315_56 : decode (mC 315) 56 = .ok (.aload_n 0, 1) := by decide +kernel
theorem d_315_57 : decode (mC 315) 57 = .ok (.getfield 393, 3) := by decide +kernel
theorem d_315_60 : decode (mC 315) 60 = .ok (.iconst (-1), 1) := by decide +kernel
theorem d_315_61 : decode (mC 315) 61 = .ok (.iastore, 1) := by decide +kernel
theorem d_315_62 : decode (mC 315) 62 = .ok (.aload_n 0, 1) := by decide +kernel
theorem d_315_63 : decode (mC 315) 63 = .ok (.dup, 1) := by decide +kernel
theorem d_315_64 : decode (mC 315) 64 = .ok (.getfield 393, 3) := by decide +kernel
theorem d_315_67 : decode (mC 315) 67 = .ok (.iconst 1, 1) := by decide +kernel
theorem d_315_68 : decode (mC 315) 68 = .ok (.iadd, 1) := by decide +kernel
theorem d_315_69 : decode (mC 315) 69 = .ok (.putfield 393, 3) := by decide +kernel
theorem d_315_72 : decode (mC 315) 72 = .ok (.aload_n 0, 1) := by decide +kernel
theorem d_315_73 : decode (mC 315) 73 = .ok (.getfield 393, 3) := by decide +kernel
theorem d_315_76 : decode (mC 315) 76 = .ok (.iconst 1, 1) := by decide +kernel
theorem d_315_77 : decode (mC 315) 77 = .ok (.isub, 1) := by decide +kernel
theorem d_315_78 : decode (mC 315) 78 = .ok (.ireturn, 1) := by decide +kernel
theorem ml_315 : mL 315 = 3 := by decide +kernel
theorem d_316_0 : decode (mC 316) 0 = .ok (.iload_n 1, 1) := by decide +kernel
theorem d_316_1 : decode (mC 316) 1 = .ok (.iconst 0, 1) := by decide +kernel
theorem d_316_2 : decode (mC 316) 2 = .ok (.aload_n 0, 1) := by decide +kernel
theorem d_316_3 : decode (mC 316) 3 = .ok (.getfield 393, 3) := by decide +kernel
theorem cn_316 : (mN 316).cls = "CordLoftModel" := by decide +kernel
theorem d_316_6 : decode (mC 316) 6 = .ok (.iconst 1, 1) := by decide +kernel
theorem d_316_7 : decode (mC 316) 7 = .ok (.isub, 1) := by decide +kernel
theorem d_316_8 : decode (mC 316) 8 = .ok (.invokestatic 399, 3) := by decide +kernel
theorem sk_316_399 : SKc 316 399 243 3 := ⟨⟨List.mem_of_getElem? (i := 1690) (by decide +kernel), by decide +kernel⟩, List.mem_of_getElem? (i := 1691) (by decide +kernel), mo_243, m0_243⟩
theorem d_316_11 : decode (mC 316) 11 = .ok (.ifCond .eq 12, 3) := by decide +kernel
theorem d_316_23 : decode (mC 316) 23 = .ok (.iconst 0, 1) := by decide +kernel
theorem d_316_24 : decode (mC 316) 24 = .ok (.ireturn, 1) := by decide +kernel
theorem mr_316 : mR 316 = some .boolean := by decide +kernel
theorem d_316_14 : decode (mC 316) 14 = .ok (.aload_n 0, 1) := by decide +kernel
theorem d_316_15 : decode (mC 316) 15 = .ok (.getfield 100, 3) := by decide +kernel
theorem d_316_18 : decode (mC 316) 18 = .ok (.iload_n 1, 1) := by decide +kernel
theorem d_316_19 : decode (mC 316) 19 = .ok (.iaload, 1) := by decide +kernel
theorem d_316_20 : decode (mC 316) 20 = .ok (.ifCond .lt 5, 3) := by decide +kernel
theorem d_316_25 : decode (mC 316) 25 = .ok (.aload_n 0, 1) := by decide +kernel
theorem d_316_26 : decode (mC 316) 26 = .ok (.getfield 100, 3) := by decide +kernel
theorem d_316_29 : decode (mC 316) 29 = .ok (.iload_n 1, 1) := by decide +kernel
theorem d_316_30 : decode (mC 316) 30 = .ok (.aload_n 0, 1) := by decide +kernel
theorem d_316_31 : decode (mC 316) 31 = .ok (.getfield 485, 3) := by decide +kernel
theorem d_316_34 : decode (mC 316) 34 = .ok (.iastore, 1) := by decide +kernel
theorem d_316_35 : decode (mC 316) 35 = .ok (.iconst 1, 1) := by decide +kernel
theorem d_316_36 : decode (mC 316) 36 = .ok (.ireturn, 1) := by decide +kernel
theorem ml_316 : mL 316 = 2 := by decide +kernel
theorem d_317_0 : decode (mC 317) 0 = .ok (.iload_n 1, 1) := by decide +kernel
theorem d_317_1 : decode (mC 317) 1 = .ok (.ifCond .lt 22, 3) := by decide +kernel
theorem d_317_23 : decode (mC 317) 23 = .ok (.iconst (-1), 1) := by decide +kernel
theorem d_317_24 : decode (mC 317) 24 = .ok (.ireturn, 1) := by decide +kernel
theorem mr_317 : mR 317 = some .int := by decide +kernel
theorem d_317_4 : decode (mC 317) 4 = .ok (.iload_n 1, 1) := by decide +kernel
theorem d_317_5 : decode (mC 317) 5 = .ok (.sipush 1000, 3) := by decide +kernel
theorem d_317_8 : decode (mC 317) 8 = .ok (.if_icmp .gt 15, 3) := by decide +kernel
theorem d_317_11 : decode (mC 317) 11 = .ok (.aload_n 0, 1) := by decide +kernel
theorem d_317_12 : decode (mC 317) 12 = .ok (.getfield 485, 3) := by decide +kernel
theorem cn_317 : (mN 317).cls = "CordLoftModel" := by decide +kernel
theorem d_317_15 : decode (mC 317) 15 = .ok (.iload_n 1, 1) := by decide +kernel
theorem d_317_16 : decode (mC 317) 16 = .ok (.iadd, 1) := by decide +kernel
theorem d_317_17 : decode (mC 317) 17 = .ok (.ldc_w 488, 3) := by decide +kernel
theorem cw_CordLoftModel_488 : Cond.constant "CordLoftModel" 488 100000 ∈ lw_tbl := List.mem_of_getElem? (i := 1985) (by decide +kernel)
theorem d_317_20 : decode (mC 317) 20 = .ok (.if_icmp .le 5, 3) := by decide +kernel
theorem d_317_25 : decode (mC 317) 25 = .ok (.aload_n 0, 1) := by decide +kernel
theorem d_317_26 : decode (mC 317) 26 = .ok (.dup, 1) := by decide +kernel
theorem d_317_27 : decode (mC 317) 27 = .ok (.getfield 485, 3) := by decide +kernel
theorem d_317_30 : decode (mC 317) 30 = .ok (.iload_n 1, 1) := by decide +kernel
theorem d_317_31 : decode (mC 317) 31 = .ok (.iadd, 1) := by decide +kernel
theorem d_317_32 : decode (mC 317) 32 = .ok (.putfield 485, 3) := by decide +kernel
theorem fp_CordLoftModel_485 : FP 0 "CordLoftModel" 485 12 68 := ⟨⟨_, rfl, by decide, List.mem_of_getElem? (i := 1359) (by decide +kernel), rfl⟩, rfl, by decide, by decide +kernel⟩
theorem d_317_35 : decode (mC 317) 35 = .ok (.aload_n 0, 1) := by decide +kernel
theorem d_317_36 : decode (mC 317) 36 = .ok (.getfield 485, 3) := by decide +kernel
theorem d_317_39 : decode (mC 317) 39 = .ok (.ireturn, 1) := by decide +kernel
theorem ml_317 : mL 317 = 2 := by decide +kernel
theorem d_319_66 : decode (mC 319) 66 = .ok (.iload_n 3, 1) := by decide +kernel
theorem d_319_67 : decode (mC 319) 67 = .ok (.aload_n 0, 1) := by decide +kernel
theorem d_319_68 : decode (mC 319) 68 = .ok (.getfield 94, 3) := by decide +kernel
theorem cn_319 : (mN 319).cls = "CordLoftModel" := by decide +kernel
theorem d_319_71 : decode (mC 319) 71 = .ok (.iload 5, 2) := by decide +kernel
theorem d_319_73 : decode (mC 319) 73 = .ok (.iaload, 1) := by decide +kernel
theorem d_319_74 : decode (mC 319) 74 = .ok (.invokestatic 326, 3) := by decide +kernel
theorem sk_319_326 : SKc 319 326 225 2 := ⟨⟨List.mem_of_getElem? (i := 1620) (by decide +kernel), by decide +kernel⟩, List.mem_of_getElem? (i := 1621) (by decide +kernel), mo_225, m0_225⟩
theorem d_319_77 : decode (mC 319) 77 = .ok (.aload_n 0, 1) := by decide +kernel
theorem d_319_78 : decode (mC 319) 78 = .ok (.getfield 103, 3) := by decide +kernel
theorem d_319_81 : decode (mC 319) 81 = .ok (.iload 5, 2) := by decide +kernel
theorem d_319_83 : decode (mC 319) 83 = .ok (.baload, 1) := by decide +kernel
theorem d_319_84 : decode (mC 319) 84 = .ok (.if_icmp .ne 7, 3) := by decide +kernel
theorem d_319_91 : decode (mC 319) 91 = .ok (.iconst 0, 1) := by decide +kernel
theorem d_319_92 : decode (mC 319) 92 = .ok (.istore 4, 2) := by decide +kernel
theorem ml_319 : mL 319 = 6 := by decide +kernel
theorem d_319_94 : decode (mC 319) 94 = .ok (.iinc 5 1, 3) := by decide +kernel
theorem d_319_97 : decode (mC 319) 97 = .ok (.goto (-80), 3) := by decide +kernel
theorem d_319_87 : decode (mC 319) 87 = .ok (.iconst 1, 1) := by decide +kernel
theorem d_319_88 : decode (mC 319) 88 = .ok (.goto 4, 3) := by decide +kernel
theorem d_319_17 : decode (mC 319) 17 = .ok (.iload 5, 2) := by decide +kernel
theorem d_319_19 : decode (mC 319) 19 = .ok (.aload_n 0, 1) := by decide +kernel
theorem d_319_20 : decode (mC 319) 20 = .ok (.getfield 393, 3) := by decide +kernel
theorem d_319_23 : decode (mC 319) 23 = .ok (.if_icmp .ge 77, 3) := by decide +kernel
theorem d_319_26 : decode (mC 319) 26 = .ok (.iload 4, 2) := by decide +kernel
theorem d_319_28 : decode (mC 319) 28 = .ok (.ifCond .eq 72, 3) := by decide +kernel
theorem d_319_31 : decode (mC 319) 31 = .ok (.aload_n 0, 1) := by decide +kernel
theorem d_319_32 : decode (mC 319) 32 = .ok (.getfield 97, 3) := by decide +kernel
theorem d_319_35 : decode (mC 319) 35 = .ok (.iload 5, 2) := by decide +kernel
theorem d_319_37 : decode (mC 319) 37 = .ok (.iaload, 1) := by decide +kernel
theorem d_319_38 : decode (mC 319) 38 = .ok (.iload_n 2, 1) := by decide +kernel
theorem d_319_39 : decode (mC 319) 39 = .ok (.if_icmp .gt 55, 3) := by decide +kernel
theorem d_319_42 : decode (mC 319) 42 = .ok (.aload_n 0, 1) := by decide +kernel
theorem d_319_43 : decode (mC 319) 43 = .ok (.getfield 100, 3) := by decide +kernel
theorem d_319_46 : decode (mC 319) 46 = .ok (.iload 5, 2) := by decide +kernel
theorem d_319_48 : decode (mC 319) 48 = .ok (.iaload, 1) := by decide +kernel
theorem d_319_49 : decode (mC 319) 49 = .ok (.ifCond .lt 17, 3) := by decide +kernel
theorem d_319_52 : decode (mC 319) 52 = .ok (.aload_n 0, 1) := by decide +kernel
theorem d_319_53 : decode (mC 319) 53 = .ok (.getfield 100, 3) := by decide +kernel
theorem d_319_56 : decode (mC 319) 56 = .ok (.iload 5, 2) := by decide +kernel
theorem d_319_58 : decode (mC 319) 58 = .ok (.iaload, 1) := by decide +kernel
theorem d_319_59 : decode (mC 319) 59 = .ok (.iload_n 2, 1) := by decide +kernel
theorem d_319_60 : decode (mC 319) 60 = .ok (.if_icmp .gt 6, 3) := by decide +kernel
theorem d_319_63 : decode (mC 319) 63 = .ok (.goto 31, 3) := by decide +kernel
theorem d_319_0 : decode (mC 319) 0 = .ok (.aload_n 0, 1) := by decide +kernel
theorem d_319_1 : decode (mC 319) 1 = .ok (.getfield 372, 3) := by decide +kernel
theorem d_319_4 : decode (mC 319) 4 = .ok (.aload_n 0, 1) := by decide +kernel
theorem d_319_5 : decode (mC 319) 5 = .ok (.iload_n 1, 1) := by decide +kernel
theorem d_319_6 : decode (mC 319) 6 = .ok (.invokevirtual 435, 3) := by decide +kernel
theorem vk_319_435 : VK 319 435 270 1 12 := ⟨⟨List.mem_of_getElem? (i := 1793) (by decide +kernel), by decide +kernel⟩, List.mem_of_getElem? (i := 1795) (by decide +kernel), mo_270, m0_270, _, rfl, List.mem_of_getElem? (i := 74) (by decide +kernel), by decide⟩
theorem d_319_9 : decode (mC 319) 9 = .ok (.ixor, 1) := by decide +kernel
theorem d_319_10 : decode (mC 319) 10 = .ok (.istore_n 3, 1) := by decide +kernel
theorem d_319_11 : decode (mC 319) 11 = .ok (.iconst 1, 1) := by decide +kernel
theorem d_319_12 : decode (mC 319) 12 = .ok (.istore 4, 2) := by decide +kernel
theorem d_319_14 : decode (mC 319) 14 = .ok (.iconst 0, 1) := by decide +kernel
theorem d_319_15 : decode (mC 319) 15 = .ok (.istore 5, 2) := by decide +kernel
theorem d_319_100 : decode (mC 319) 100 = .ok (.iload 4, 2) := by decide +kernel
theorem d_319_102 : decode (mC 319) 102 = .ok (.ireturn, 1) := by decide +kernel
theorem mr_319 : mR 319 = some .boolean := by decide +kernel
theorem d_318_4 : decode (mC 318) 4 = .ok (.iload_n 3, 1) := by decide +kernel
theorem d_318_5 : decode (mC 318) 5 = .ok (.iconst 1, 1) := by decide +kernel
theorem d_318_6 : decode (mC 318) 6 = .ok (.aload_n 0, 1) := by decide +kernel
theorem d_318_7 : decode (mC 318) 7 = .ok (.getfield 369, 3) := by decide +kernel
theorem cn_318 : (mN 318).cls = "CordLoftModel" := by decide +kernel
theorem d_318_10 : decode (mC 318) 10 = .ok (.ishl, 1) := by decide +kernel
theorem d_318_11 : decode (mC 318) 11 = .ok (.if_icmp .ge 21, 3) := by decide +kernel
theorem d_318_14 : decode (mC 318) 14 = .ok (.iload_n 2, 1) := by decide +kernel
theorem d_318_15 : decode (mC 318) 15 = .ok (.aload_n 0, 1) := by decide +kernel
theorem d_318_16 : decode (mC 318) 16 = .ok (.iload_n 3, 1) := by decide +kernel
theorem d_318_17 : decode (mC 318) 17 = .ok (.iload_n 1, 1) := by decide +kernel
theorem d_318_18 : decode (mC 318) 18 = .ok (.invokevirtual 489, 3) := by decide +kernel
theorem mo_319 : MOK 319 := ⟨List.mem_of_getElem? (i := 1993) (by decide +kernel), by decide +kernel, ⟨by decide +kernel, by decide +kernel⟩, List.mem_of_getElem? (i := 100) (by decide +kernel), by decide +kernel⟩
theorem m0_319 : M0K 319 := ⟨by decide +kernel, by decide +kernel⟩
theorem vk_318_489 : VK 318 489 319 2 12 := ⟨⟨List.mem_of_getElem? (i := 1990) (by decide +kernel), by decide +kernel⟩, List.mem_of_getElem? (i := 1992) (by decide +kernel), mo_319, m0_319, _, rfl, List.mem_of_getElem? (i := 85) (by decide +kernel), by decide⟩
theorem d_318_21 : decode (mC 318) 21 = .ok (.invokestatic 283, 3) := by decide +kernel
theorem sk_318_283 : SKc 318 283 259 1 := ⟨⟨List.mem_of_getElem? (i := 1752) (by decide +kernel), by decide +kernel⟩, List.mem_of_getElem? (i := 1753) (by decide +kernel), mo_259, m0_259⟩
theorem d_318_24 : decode (mC 318) 24 = .ok (.iadd, 1) := by decide +kernel
theorem d_318_25 : decode (mC 318) 25 = .ok (.istore_n 2, 1) := by decide +kernel
theorem ml_318 : mL 318 = 4 := by decide +kernel
theorem d_318_26 : decode (mC 318) 26 = .ok (.iinc 3 1, 3) := by decide +kernel
theorem d_318_29 : decode (mC 318) 29 = .ok (.goto (-25), 3) := by decide +kernel
theorem d_318_0 : decode (mC 318) 0 = .ok (.iconst 0, 1) := by decide +kernel
theorem d_318_1 : decode (mC 318) 1 = .ok (.istore_n 2, 1) := by decide +kernel
theorem d_318_2 : decode (mC 318) 2 = .ok (.iconst 0, 1) := by decide +kernel
theorem d_318_3 : decode (mC 318) 3 = .ok (.istore_n 3, 1) := by decide +kernel
theorem d_318_32 : decode (mC 318) 32 = .ok (.iload_n 2, 1) := by decide +kernel
theorem d_318_33 : decode (mC 318) 33 = .ok (.ireturn, 1) := by decide +kernel
theorem mr_318 : mR 318 = some .int := by decide +kernel
theorem d_320_2 : decode (mC 320) 2 = .ok (.iload_n 2, 1) := by decide +kernel
theorem d_320_3 : decode (mC 320) 3 = .ok (.iconst 1, 1) := by decide +kernel
theorem d_320_4 : decode (mC 320) 4 = .ok (.aload_n 0, 1) := by decide +kernel
theorem d_320_5 : decode (mC 320) 5 = .ok (.getfield 369, 3) := by decide +kernel
theorem cn_320 : (mN 320).cls = "CordLoftModel" := by decide +kernel
theorem d_320_8 : decode (mC 320) 8 = .ok (.ishl, 1) := by decide +kernel
theorem d_320_9 : decode (mC 320) 9 = .ok (.if_icmp .ge 20, 3) := by decide +kernel
theorem d_320_12 : decode (mC 320) 12 = .ok (.aload_n 0, 1) := by decide +kernel
theorem d_320_13 : decode (mC 320) 13 = .ok (.iload_n 2, 1) := by decide +kernel
theorem d_320_14 : decode (mC 320) 14 = .ok (.iload_n 1, 1) := by decide +kernel
theorem d_320_15 : decode (mC 320) 15 = .ok (.invokevirtual 489, 3) := by decide +kernel
theorem vk_320_489 : VK 320 489 319 2 12 := ⟨⟨List.mem_of_getElem? (i := 1990) (by decide +kernel), by decide +kernel⟩, List.mem_of_getElem? (i := 1992) (by decide +kernel), mo_319, m0_319, _, rfl, List.mem_of_getElem? (i := 85) (by decide +kernel), by decide⟩
theorem d_320_18 : decode (mC 320) 18 = .ok (.ifCond .eq 5, 3) := by decide +kernel
theorem d_320_23 : decode (mC 320) 23 = .ok (.iinc 2 1, 3) := by decide +kernel
theorem ml_320 : mL 320 = 3 := by decide +kernel
theorem d_320_26 : decode (mC 320) 26 = .ok (.goto (-24), 3) := by decide +kernel
theorem d_320_21 : decode (mC 320) 21 = .ok (.iload_n 2, 1) := by decide +kernel
theorem d_320_22 : decode (mC 320) 22 = .ok (.ireturn, 1) := by decide +kernel
theorem mr_320 : mR 320 = some .int := by decide +kernel
theorem d_320_0 : decode (mC 320) 0 = .ok (.iconst 0, 1) := by decide +kernel
theorem d_320_1 : decode (mC 320) 1 = .ok (.istore_n 2, 1) := by decide +kernel
theorem d_320_29 : decode (mC 320) 29 = .ok (.iconst (-1), 1) := by decide +kernel
theorem d_320_30 : decode (mC 320) 30 = .ok (.ireturn, 1) := by decide +kernel
theorem d_321_63 : decode (mC 321) 63 = .ok (.invokestatic 283, 3) := by decide +kernel
theorem sk_321_283 : SKc 321 283 259 1 := ⟨⟨List.mem_of_getElem? (i := 1752) (by decide +kernel), by decide +kernel⟩, List.mem_of_getElem? (i := 1753) (by decide +kernel), mo_259, m0_259⟩
theorem d_321_66 : decode (mC 321) 66 = .ok (.iadd, 1) := by decide +kernel
theorem d_321_67 : decode (mC 321) 67 = .ok (.istore 4, 2) := by decide +kernel
theorem ml_321 : mL 321 = 6 := by decide +kernel
theorem d_321_69 : decode (mC 321) 69 = .ok (.iinc 5 1, 3) := by decide +kernel
theorem d_321_72 : decode (mC 321) 72 = .ok (.goto (-46), 3) := by decide +kernel
theorem d_321_62 : decode (mC 321) 62 = .ok (.iconst 0, 1) := by decide +kernel
theorem d_321_26 : decode (mC 321) 26 = .ok (.iload 5, 2) := by decide +kernel
theorem d_321_28 : decode (mC 321) 28 = .ok (.iconst 1, 1) := by decide +kernel
theorem d_321_29 : decode (mC 321) 29 = .ok (.aload_n 0, 1) := by decide +kernel
theorem d_321_30 : decode (mC 321) 30 = .ok (.getfield 369, 3) := by decide +kernel
theorem cn_321 : (mN 321).cls = "CordLoftModel" := by decide +kernel
theorem d_321_33 : decode (mC 321) 33 = .ok (.ishl, 1) := by decide +kernel
theorem d_321_34 : decode (mC 321) 34 = .ok (.if_icmp .ge 41, 3) := by decide +kernel
theorem d_321_37 : decode (mC 321) 37 = .ok (.iload 4, 2) := by decide +kernel
theorem d_321_39 : decode (mC 321) 39 = .ok (.iload 5, 2) := by decide +kernel
theorem d_321_41 : decode (mC 321) 41 = .ok (.iload_n 1, 1) := by decide +kernel
theorem d_321_42 : decode (mC 321) 42 = .ok (.invokestatic 326, 3) := by decide +kernel
theorem sk_321_326 : SKc 321 326 225 2 := ⟨⟨List.mem_of_getElem? (i := 1620) (by decide +kernel), by decide +kernel⟩, List.mem_of_getElem? (i := 1621) (by decide +kernel), mo_225, m0_225⟩
theorem d_321_45 : decode (mC 321) 45 = .ok (.ifCond .eq 17, 3) := by decide +kernel
theorem d_321_48 : decode (mC 321) 48 = .ok (.aload_n 0, 1) := by decide +kernel
theorem d_321_49 : decode (mC 321) 49 = .ok (.iload 5, 2) := by decide +kernel
theorem d_321_51 : decode (mC 321) 51 = .ok (.iload_n 2, 1) := by decide +kernel
theorem d_321_52 : decode (mC 321) 52 = .ok (.invokevirtual 489, 3) := by decide +kernel
theorem vk_321_489 : VK 321 489 319 2 12 := ⟨⟨List.mem_of_getElem? (i := 1990) (by decide +kernel), by decide +kernel⟩, List.mem_of_getElem? (i := 1992) (by decide +kernel), mo_319, m0_319, _, rfl, List.mem_of_getElem? (i := 85) (by decide +kernel), by decide⟩
theorem d_321_55 : decode (mC 321) 55 = .ok (.ifCond .eq 7, 3) := by decide +kernel
theorem d_321_58 : decode (mC 321) 58 = .ok (.iconst 1, 1) := by decide +kernel
theorem d_321_59 : decode (mC 321) 59 = .ok (.goto 4, 3) := by decide +kernel
theorem d_321_0 : decode (mC 321) 0 = .ok (.aload_n 0, 1) := by decide +kernel
theorem d_321_1 : decode (mC 321) 1 = .ok (.iload_n 2, 1) := by decide +kernel
theorem d_321_2 : decode (mC 321) 2 = .ok (.invokevirtual 492, 3) := by decide +kernel
theorem mo_318 : MOK 318 := ⟨List.mem_of_getElem? (i := 1989) (by decide +kernel), by decide +kernel, ⟨by decide +kernel, by decide +kernel⟩, List.mem_of_getElem? (i := 100) (by decide +kernel), by decide +kernel⟩
theorem m0_318 : M0K 318 := ⟨by decide +kernel, by decide +kernel⟩
theorem vk_321_492 : VK 321 492 318 1 12 := ⟨⟨List.mem_of_getElem? (i := 2002) (by decide +kernel), by decide +kernel⟩, List.mem_of_getElem? (i := 1987) (by decide +kernel), mo_318, m0_318, _, rfl, List.mem_of_getElem? (i := 1988) (by decide +kernel), by decide⟩
theorem d_321_5 : decode (mC 321) 5 = .ok (.istore_n 3, 1) := by decide +kernel
theorem d_321_6 : decode (mC 321) 6 = .ok (.aload_n 0, 1) := by decide +kernel
theorem d_321_7 : decode (mC 321) 7 = .ok (.iload_n 1, 1) := by decide +kernel
theorem d_321_8 : decode (mC 321) 8 = .ok (.invokevirtual 405, 3) := by decide +kernel
theorem vk_321_405 : VK 321 405 246 1 12 := ⟨⟨List.mem_of_getElem? (i := 1701) (by decide +kernel), by decide +kernel⟩, List.mem_of_getElem? (i := 1703) (by decide +kernel), mo_246, m0_246, _, rfl, List.mem_of_getElem? (i := 63) (by decide +kernel), by decide⟩
theorem d_321_11 : decode (mC 321) 11 = .ok (.ifCond .eq 7, 3) := by decide +kernel
theorem d_321_18 : decode (mC 321) 18 = .ok (.iconst (-1), 1) := by decide +kernel
theorem d_321_19 : decode (mC 321) 19 = .ok (.ireturn, 1) := by decide +kernel
theorem mr_321 : mR 321 = some .int := by decide +kernel
theorem d_321_14 : decode (mC 321) 14 = .ok (.iload_n 3, 1) := by decide +kernel
theorem d_321_15 : decode (mC 321) 15 = .ok (.ifCond .ne 5, 3) := by decide +kernel
theorem d_321_20 : decode (mC 321) 20 = .ok (.iconst 0, 1) := by decide +kernel
theorem d_321_21 : decode (mC 321) 21 = .ok (.istore 4, 2) := by decide +kernel
theorem d_321_23 : decode (mC 321) 23 = .ok (.iconst 0, 1) := by decide +kernel
theorem d_321_24 : decode (mC 321) 24 = .ok (.istore 5, 2) := by decide +kernel
theorem d_321_75 : decode (mC 321) 75 = .ok (.iload 4, 2) := by decide +kernel
theorem d_321_77 : decode (mC 321) 77 = .ok (.iload_n 3, 1) := by decide +kernel
theorem d_321_78 : decode (mC 321) 78 = .ok (.if_icmp .ne 7, 3) := by decide +kernel
theorem d_321_85 : decode (mC 321) 85 = .ok (.iload 4, 2) := by decide +kernel
theorem d_321_87 : decode (mC 321) 87 = .ok (.ifCond .ne 7, 3) := by decide +kernel
theorem d_321_94 : decode (mC 321) 94 = .ok (.bipush (-2), 2) := by decide +kernel
theorem d_321_96 : decode (mC 321) 96 = .ok (.ireturn, 1) := by decide +kernel
theorem d_321_90 : decode (mC 321) 90 = .ok (.iconst 0, 1) := by decide +kernel
theorem d_321_91 : decode (mC 321) 91 = .ok (.goto 5, 3) := by decide +kernel
theorem d_321_81 : decode (mC 321) 81 = .ok (.iconst 1, 1) := by decide +kernel
theorem d_321_82 : decode (mC 321) 82 = .ok (.goto 14, 3) := by decide +kernel
theorem d_324_0 : decode (mC 324) 0 = .ok (.iload_n 0, 1) := by decide +kernel
theorem d_324_1 : decode (mC 324) 1 = .ok (.iload_n 1, 1) := by decide +kernel
theorem d_324_2 : decode (mC 324) 2 = .ok (.if_icmp .le 7, 3) := by decide +kernel
theorem d_324_9 : decode (mC 324) 9 = .ok (.iload_n 1, 1) := by decide +kernel
theorem d_324_10 : decode (mC 324) 10 = .ok (.ireturn, 1) := by decide +kernel
theorem mr_324 : mR 324 = some .int := by decide +kernel
theorem d_324_5 : decode (mC 324) 5 = .ok (.iload_n 0, 1) := by decide +kernel
theorem d_324_6 : decode (mC 324) 6 = .ok (.goto 4, 3) := by decide +kernel
theorem ml_324 : mL 324 = 2 := by decide +kernel
theorem d_323_52 : decode (mC 323) 52 = .ok (.invokestatic 283, 3) := by decide +kernel
theorem sk_323_283 : SKc 323 283 259 1 := ⟨⟨List.mem_of_getElem? (i := 1752) (by decide +kernel), by decide +kernel⟩, List.mem_of_getElem? (i := 1753) (by decide +kernel), mo_259, m0_259⟩
theorem d_323_55 : decode (mC 323) 55 = .ok (.iadd, 1) := by decide +kernel
theorem d_323_56 : decode (mC 323) 56 = .ok (.istore 4, 2) := by decide +kernel
theorem ml_323 : mL 323 = 6 := by decide +kernel
theorem d_323_58 : decode (mC 323) 58 = .ok (.iinc 5 1, 3) := by decide +kernel
theorem d_323_61 : decode (mC 323) 61 = .ok (.goto (-55), 3) := by decide +kernel
theorem d_323_51 : decode (mC 323) 51 = .ok (.iconst 0, 1) := by decide +kernel
theorem d_323_6 : decode (mC 323) 6 = .ok (.iload 5, 2) := by decide +kernel
theorem d_323_8 : decode (mC 323) 8 = .ok (.iconst 1, 1) := by decide +kernel
theorem d_323_9 : decode (mC 323) 9 = .ok (.aload_n 0, 1) := by decide +kernel
theorem d_323_10 : decode (mC 323) 10 = .ok (.getfield 369, 3) := by decide +kernel
theorem cn_323 : (mN 323).cls = "CordLoftModel" := by decide +kernel
theorem d_323_13 : decode (mC 323) 13 = .ok (.ishl, 1) := by decide +kernel
theorem d_323_14 : decode (mC 323) 14 = .ok (.if_icmp .ge 50, 3) := by decide +kernel
theorem d_323_17 : decode (mC 323) 17 = .ok (.iload 4, 2) := by decide +kernel
theorem d_323_19 : decode (mC 323) 19 = .ok (.aload_n 0, 1) := by decide +kernel
theorem d_323_20 : decode (mC 323) 20 = .ok (.getfield 372, 3) := by decide +kernel
theorem d_323_23 : decode (mC 323) 23 = .ok (.aload_n 0, 1) := by decide +kernel
theorem d_323_24 : decode (mC 323) 24 = .ok (.iload 5, 2) := by decide +kernel
theorem d_323_26 : decode (mC 323) 26 = .ok (.invokevirtual 435, 3) := by decide +kernel
theorem vk_323_435 : VK 323 435 270 1 12 := ⟨⟨List.mem_of_getElem? (i := 1793) (by decide +kernel), by decide +kernel⟩, List.mem_of_getElem? (i := 1795) (by decide +kernel), mo_270, m0_270, _, rfl, List.mem_of_getElem? (i := 74) (by decide +kernel), by decide⟩
theorem d_323_29 : decode (mC 323) 29 = .ok (.ixor, 1) := by decide +kernel
theorem d_323_30 : decode (mC 323) 30 = .ok (.iload_n 1, 1) := by decide +kernel
theorem d_323_31 : decode (mC 323) 31 = .ok (.invokestatic 326, 3) := by decide +kernel
theorem sk_323_326 : SKc 323 326 225 2 := ⟨⟨List.mem_of_getElem? (i := 1620) (by decide +kernel), by decide +kernel⟩, List.mem_of_getElem? (i := 1621) (by decide +kernel), mo_225, m0_225⟩
theorem d_323_34 : decode (mC 323) 34 = .ok (.ifCond .eq 17, 3) := by decide +kernel
theorem d_323_37 : decode (mC 323) 37 = .ok (.aload_n 0, 1) := by decide +kernel
theorem d_323_38 : decode (mC 323) 38 = .ok (.iload 5, 2) := by decide +kernel
theorem d_323_40 : decode (mC 323) 40 = .ok (.iload_n 3, 1) := by decide +kernel
theorem d_323_41 : decode (mC 323) 41 = .ok (.invokevirtual 489, 3) := by decide +kernel
theorem vk_323_489 : VK 323 489 319 2 12 := ⟨⟨List.mem_of_getElem? (i := 1990) (by decide +kernel), by decide +kernel⟩, List.mem_of_getElem? (i := 1992) (by decide +kernel), mo_319, m0_319, _, rfl, List.mem_of_getElem? (i := 85) (by decide +kernel), by decide⟩
theorem d_323_44 : decode (mC 323) 44 = .ok (.ifCond .eq 7, 3) := by decide +kernel
theorem d_323_47 : decode (mC 323) 47 = .ok (.iconst 1, 1) := by decide +kernel
theorem d_323_48 : decode (mC 323) 48 = .ok (.goto 4, 3) := by decide +kernel
theorem d_323_0 : decode (mC 323) 0 = .ok (.iconst 0, 1) := by decide +kernel
theorem d_323_1 : decode (mC 323) 1 = .ok (.istore 4, 2) := by decide +kernel
theorem d_323_3 : decode (mC 323) 3 = .ok (.iconst 0, 1) := by decide +kernel
theorem d_323_4 : decode (mC 323) 4 = .ok (.istore 5, 2) := by decide +kernel
theorem d_323_64 : decode (mC 323) 64 = .ok (.iload 4, 2) := by decide +kernel
theorem d_323_66 : decode (mC 323) 66 = .ok (.iload_n 2, 1) := by decide +kernel
theorem d_323_67 : decode (mC 323) 67 = .ok (.iload 4, 2) := by decide +kernel
theorem d_323_69 : decode (mC 323) 69 = .ok (.isub, 1) := by decide +kernel
theorem d_323_70 : decode (mC 323) 70 = .ok (.invokestatic 495, 3) := by decide +kernel
theorem mo_324 : MOK 324 := ⟨List.mem_of_getElem? (i := 2013) (by decide +kernel), by decide +kernel, ⟨by decide +kernel, by decide +kernel⟩, List.mem_of_getElem? (i := 100) (by decide +kernel), by decide +kernel⟩
theorem m0_324 : M0K 324 := ⟨by decide +kernel, by decide +kernel⟩
theorem sk_323_495 : SKc 323 495 324 2 := ⟨⟨List.mem_of_getElem? (i := 2011) (by decide +kernel), by decide +kernel⟩, List.mem_of_getElem? (i := 2012) (by decide +kernel), mo_324, m0_324⟩
theorem d_323_73 : decode (mC 323) 73 = .ok (.ireturn, 1) := by decide +kernel
theorem mr_323 : mR 323 = some .int := by decide +kernel
theorem d_322_34 : decode (mC 322) 34 = .ok (.iload 5, 2) := by decide +kernel
theorem d_322_36 : decode (mC 322) 36 = .ok (.aload_n 0, 1) := by decide +kernel
theorem d_322_37 : decode (mC 322) 37 = .ok (.getfield 303, 3) := by decide +kernel
theorem cn_322 : (mN 322).cls = "CordLoftModel" := by decide +kernel
theorem d_322_40 : decode (mC 322) 40 = .ok (.if_icmp .ge 37, 3) := by decide +kernel
theorem d_322_43 : decode (mC 322) 43 = .ok (.aload_n 0, 1) := by decide +kernel
theorem d_322_44 : decode (mC 322) 44 = .ok (.iload 5, 2) := by decide +kernel
theorem d_322_46 : decode (mC 322) 46 = .ok (.iload_n 3, 1) := by decide +kernel
theorem d_322_47 : decode (mC 322) 47 = .ok (.iload_n 2, 1) := by decide +kernel
theorem d_322_48 : decode (mC 322) 48 = .ok (.invokevirtual 498, 3) := by decide +kernel
theorem mo_323 : MOK 323 := ⟨List.mem_of_getElem? (i := 2010) (by decide +kernel), by decide +kernel, ⟨by decide +kernel, by decide +kernel⟩, List.mem_of_getElem? (i := 100) (by decide +kernel), by decide +kernel⟩
theorem m0_323 : M0K 323 := ⟨by decide +kernel, by decide +kernel⟩
theorem vk_322_498 : VK 322 498 323 3 12 := ⟨⟨List.mem_of_getElem? (i := 2007) (by decide +kernel), by decide +kernel⟩, List.mem_of_getElem? (i := 2009) (by decide +kernel), mo_323, m0_323, _, rfl, List.mem_of_getElem? (i := 86) (by decide +kernel), by decide⟩
theorem d_322_51 : decode (mC 322) 51 = .ok (.aload_n 0, 1) := by decide +kernel
theorem d_322_52 : decode (mC 322) 52 = .ok (.iload 4, 2) := by decide +kernel
theorem d_322_54 : decode (mC 322) 54 = .ok (.iload_n 3, 1) := by decide +kernel
theorem d_322_55 : decode (mC 322) 55 = .ok (.iload_n 2, 1) := by decide +kernel
theorem d_322_56 : decode (mC 322) 56 = .ok (.invokevirtual 498, 3) := by decide +kernel
theorem d_322_59 : decode (mC 322) 59 = .ok (.if_icmp .ge 8, 3) := by decide +kernel
theorem d_322_67 : decode (mC 322) 67 = .ok (.iload 4, 2) := by decide +kernel
theorem d_322_69 : decode (mC 322) 69 = .ok (.istore 4, 2) := by decide +kernel
theorem ml_322 : mL 322 = 6 := by decide +kernel
theorem d_322_71 : decode (mC 322) 71 = .ok (.iinc 5 1, 3) := by decide +kernel
theorem d_322_74 : decode (mC 322) 74 = .ok (.goto (-40), 3) := by decide +kernel
theorem d_322_62 : decode (mC 322) 62 = .ok (.iload 5, 2) := by decide +kernel
theorem d_322_64 : decode (mC 322) 64 = .ok (.goto 5, 3) := by decide +kernel
theorem d_322_0 : decode (mC 322) 0 = .ok (.aload_n 0, 1) := by decide +kernel
theorem d_322_1 : decode (mC 322) 1 = .ok (.iload_n 2, 1) := by decide +kernel
theorem d_322_2 : decode (mC 322) 2 = .ok (.invokevirtual 492, 3) := by decide +kernel
theorem vk_322_492 : VK 322 492 318 1 12 := ⟨⟨List.mem_of_getElem? (i := 2002) (by decide +kernel), by decide +kernel⟩, List.mem_of_getElem? (i := 1987) (by decide +kernel), mo_318, m0_318, _, rfl, List.mem_of_getElem? (i := 1988) (by decide +kernel), by decide⟩
theorem d_322_5 : decode (mC 322) 5 = .ok (.istore_n 3, 1) := by decide +kernel
theorem d_322_6 : decode (mC 322) 6 = .ok (.iload_n 1, 1) := by decide +kernel
theorem d_322_7 : decode (mC 322) 7 = .ok (.iconst 0, 1) := by decide +kernel
theorem d_322_8 : decode (mC 322) 8 = .ok (.iconst 1, 1) := by decide +kernel
theorem d_322_9 : decode (mC 322) 9 = .ok (.invokestatic 399, 3) := by decide +kernel
theorem sk_322_399 : SKc 322 399 243 3 := ⟨⟨List.mem_of_getElem? (i := 1690) (by decide +kernel), by decide +kernel⟩, List.mem_of_getElem? (i := 1691) (by decide +kernel), mo_243, m0_243⟩
theorem d_322_12 : decode (mC 322) 12 = .ok (.ifCond .eq 14, 3) := by decide +kernel
theorem d_322_26 : decode (mC 322) 26 = .ok (.iconst (-1), 1) := by decide +kernel
theorem d_322_27 : decode (mC 322) 27 = .ok (.ireturn, 1) := by decide +kernel
theorem mr_322 : mR 322 = some .int := by decide +kernel
theorem d_322_15 : decode (mC 322) 15 = .ok (.iload_n 3, 1) := by decide +kernel
theorem d_322_16 : decode (mC 322) 16 = .ok (.ifCond .eq 10, 3) := by decide +kernel
theorem d_322_19 : decode (mC 322) 19 = .ok (.aload_n 0, 1) := by decide +kernel
theorem d_322_20 : decode (mC 322) 20 = .ok (.getfield 303, 3) := by decide +kernel
theorem d_322_23 : decode (mC 322) 23 = .ok (.ifCond .ne 5, 3) := by decide +kernel
theorem d_322_28 : decode (mC 322) 28 = .ok (.iconst 0, 1) := by decide +kernel
theorem d_322_29 : decode (mC 322) 29 = .ok (.istore 4, 2) := by decide +kernel
theorem d_322_31 : decode (mC 322) 31 = .ok (.iconst 1, 1) := by decide +kernel
theorem d_322_32 : decode (mC 322) 32 = .ok (.istore 5, 2) := by decide +kernel
theorem d_322_77 : decode (mC 322) 77 = .ok (.iload_n 1, 1) := by decide +kernel
theorem d_322_78 : decode (mC 322) 78 = .ok (.ifCond .ne 8, 3) := by decide +kernel
theorem d_322_86 : decode (mC 322) 86 = .ok (.aload_n 0, 1) := by decide +kernel
theorem d_322_87 : decode (mC 322) 87 = .ok (.iload 4, 2) := by decide +kernel
theorem d_322_89 : decode (mC 322) 89 = .ok (.iload_n 3, 1) := by decide +kernel
theorem d_322_90 : decode (mC 322) 90 = .ok (.iload_n 2, 1) := by decide +kernel
theorem d_322_91 : decode (mC 322) 91 = .ok (.invokevirtual 498, 3) := by decide +kernel
theorem d_322_94 : decode (mC 322) 94 = .ok (.ireturn, 1) := by decide +kernel
theorem d_322_81 : decode (mC 322) 81 = .ok (.iload 4, 2) := by decide +kernel
theorem d_322_83 : decode (mC 322) 83 = .ok (.goto 11, 3) := by decide +kernel
theorem d_326_0 : decode (mC 326) 0 = .ok (.iload_n 0, 1) := by decide +kernel
theorem d_326_1 : decode (mC 326) 1 = .ok (.ifCond .lt 12, 3) := by decide +kernel
theorem d_326_13 : decode (mC 326) 13 = .ok (.iconst 0, 1) := by decide +kernel
theorem d_326_14 : decode (mC 326) 14 = .ok (.ireturn, 1) := by decide +kernel
theorem mr_326 : mR 326 = some .boolean := by decide +kernel
theorem d_326_4 : decode (mC 326) 4 = .ok (.iload_n 0, 1) := by decide +kernel
theorem d_326_5 : decode (mC 326) 5 = .ok (.iconst 3, 1) := by decide +kernel
theorem d_326_6 : decode (mC 326) 6 = .ok (.if_icmp .ge 7, 3) := by decide +kernel
theorem d_326_9 : decode (mC 326) 9 = .ok (.iconst 1, 1) := by decide +kernel
theorem d_326_10 : decode (mC 326) 10 = .ok (.goto 4, 3) := by decide +kernel
theorem ml_326 : mL 326 = 1 := by decide +kernel
theorem d_325_18 : decode (mC 325) 18 = .ok (.iload_n 2, 1) := by decide +kernel
theorem d_325_19 : decode (mC 325) 19 = .ok (.iconst 5, 1) := by decide +kernel
theorem d_325_20 : decode (mC 325) 20 = .ok (.if_icmp .ge 25, 3) := by decide +kernel
theorem d_325_23 : decode (mC 325) 23 = .ok (.aload_n 0, 1) := by decide +kernel
theorem d_325_24 : decode (mC 325) 24 = .ok (.getfield 109, 3) := by decide +kernel
theorem fk_CordLoftModel_109 : FK 2 "CordLoftModel" 109 12 70 := ⟨⟨_, rfl, by decide, List.mem_of_getElem? (i := 1361) (by decide +kernel)⟩, rfl, by decide⟩
theorem cn_325 : (mN 325).cls = "CordLoftModel" := by decide +kernel
theorem ft_13_70 : finT 13 70 = some (137, 0) := by decide +kernel
theorem k_137 : kd0 137 = 20 := by decide +kernel
theorem l_137 : ln0 137 = 15 := by decide +kernel
theorem d_325_27 : decode (mC 325) 27 = .ok (.iconst 5, 1) := by decide +kernel
theorem d_325_28 : decode (mC 325) 28 = .ok (.iload_n 1, 1) := by decide +kernel
theorem d_325_29 : decode (mC 325) 29 = .ok (.imul, 1) := by decide +kernel
theorem d_325_30 : decode (mC 325) 30 = .ok (.iload_n 2, 1) := by decide +kernel
theorem d_325_31 : decode (mC 325) 31 = .ok (.iadd, 1) := by decide +kernel
theorem d_325_32 : decode (mC 325) 32 = .ok (.aload_n 0, 1) := by decide +kernel
theorem d_325_33 : decode (mC 325) 33 = .ok (.getfield 66, 3) := by decide +kernel
theorem d_325_36 : decode (mC 325) 36 = .ok (.iload_n 2, 1) := by decide +kernel
theorem d_325_37 : decode (mC 325) 37 = .ok (.iaload, 1) := by decide +kernel
theorem d_325_38 : decode (mC 325) 38 = .ok (.iastore, 1) := by decide +kernel
theorem d_325_39 : decode (mC 325) 39 = .ok (.iinc 2 1, 3) := by decide +kernel
theorem ml_325 : mL 325 = 3 := by decide +kernel
theorem d_325_42 : decode (mC 325) 42 = .ok (.goto (-24), 3) := by decide +kernel
theorem d_325_0 : decode (mC 325) 0 = .ok (.iload_n 1, 1) := by decide +kernel
theorem d_325_1 : decode (mC 325) 1 = .ok (.invokestatic 501, 3) := by decide +kernel
theorem mo_326 : MOK 326 := ⟨List.mem_of_getElem? (i := 2020) (by decide +kernel), by decide +kernel, ⟨by decide +kernel, by decide +kernel⟩, List.mem_of_getElem? (i := 100) (by decide +kernel), by decide +kernel⟩
theorem m0_326 : M0K 326 := ⟨by decide +kernel, by decide +kernel⟩
theorem sk_325_501 : SKc 325 501 326 1 := ⟨⟨List.mem_of_getElem? (i := 2018) (by decide +kernel), by decide +kernel⟩, List.mem_of_getElem? (i := 2019) (by decide +kernel), mo_326, m0_326⟩
theorem d_325_4 : decode (mC 325) 4 = .ok (.ifCond .ne 5, 3) := by decide +kernel
theorem d_325_9 : decode (mC 325) 9 = .ok (.aload_n 0, 1) := by decide +kernel
theorem d_325_10 : decode (mC 325) 10 = .ok (.getfield 106, 3) := by decide +kernel
theorem d_325_13 : decode (mC 325) 13 = .ok (.iload_n 1, 1) := by decide +kernel
theorem d_325_14 : decode (mC 325) 14 = .ok (.iconst 1, 1) := by decide +kernel
theorem d_325_15 : decode (mC 325) 15 = .ok (.bastore, 1) := by decide +kernel
theorem d_325_16 : decode (mC 325) 16 = .ok (.iconst 0, 1) := by decide +kernel
theorem d_325_17 : decode (mC 325) 17 = .ok (.istore_n 2, 1) := by decide +kernel
theorem d_325_45 : decode (mC 325) 45 = .ok (.aload_n 0, 1) := by decide +kernel
theorem d_325_46 : decode (mC 325) 46 = .ok (.getfield 66, 3) := by decide +kernel
theorem d_325_49 : decode (mC 325) 49 = .ok (.iconst 0, 1) := by decide +kernel
theorem d_325_50 : decode (mC 325) 50 = .ok (.iaload, 1) := by decide +kernel
theorem d_325_51 : decode (mC 325) 51 = .ok (.ireturn, 1) := by decide +kernel
theorem mr_325 : mR 325 = some .int := by decide +kernel
theorem d_325_7 : decode (mC 325) 7 = .ok (.iconst (-1), 1) := by decide +kernel
theorem d_325_8 : decode (mC 325) 8 = .ok (.ireturn, 1) := by decide +kernel
theorem d_327_20 : decode (mC 327) 20 = .ok (.iload_n 2, 1) := by decide +kernel
theorem d_327_21 : decode (mC 327) 21 = .ok (.iconst 5, 1) := by decide +kernel
theorem d_327_22 : decode (mC 327) 22 = .ok (.if_icmp .ge 25, 3) := by decide +kernel
theorem d_327_25 : decode (mC 327) 25 = .ok (.aload_n 0, 1) := by decide +kernel
theorem d_327_26 : decode (mC 327) 26 = .ok (.getfield 66, 3) := by decide +kernel
theorem cn_327 : (mN 327).cls = "CordLoftModel" := by decide +kernel
theorem d_327_29 : decode (mC 327) 29 = .ok (.iload_n 2, 1) := by decide +kernel
theorem d_327_30 : decode (mC 327) 30 = .ok (.aload_n 0, 1) := by decide +kernel
theorem d_327_31 : decode (mC 327) 31 = .ok (.getfield 109, 3) := by decide +kernel
theorem d_327_34 : decode (mC 327) 34 = .ok (.iconst 5, 1) := by decide +kernel
theorem d_327_35 : decode (mC 327) 35 = .ok (.iload_n 1, 1) := by decide +kernel
theorem d_327_36 : decode (mC 327) 36 = .ok (.imul, 1) := by decide +kernel
theorem d_327_37 : decode (mC 327) 37 = .ok (.iload_n 2, 1) := by decide +kernel
theorem d_327_38 : decode (mC 327) 38 = .ok (.iadd, 1) := by decide +kernel
theorem d_327_39 : decode (mC 327) 39 = .ok (.iaload, 1) := by decide +kernel
theorem d_327_40 : decode (mC 327) 40 = .ok (.iastore, 1) := by decide +kernel
theorem d_327_41 : decode (mC 327) 41 = .ok (.iinc 2 1, 3) := by decide +kernel
theorem ml_327 : mL 327 = 3 := by decide +kernel
theorem d_327_44 : decode (mC 327) 44 = .ok (.goto (-24), 3) := by decide +kernel
theorem d_327_0 : decode (mC 327) 0 = .ok (.iload_n 1, 1) := by decide +kernel
theorem d_327_1 : decode (mC 327) 1 = .ok (.invokestatic 501, 3) := by decide +kernel
theorem sk_327_501 : SKc 327 501 326 1 := ⟨⟨List.mem_of_getElem? (i := 2018) (by decide +kernel), by decide +kernel⟩, List.mem_of_getElem? (i := 2019) (by decide +kernel), mo_326, m0_326⟩
theorem d_327_4 : decode (mC 327) 4 = .ok (.ifCond .eq 12, 3) := by decide +kernel
theorem d_327_16 : decode (mC 327) 16 = .ok (.iconst (-1), 1) := by decide +kernel
theorem d_327_17 : decode (mC 327) 17 = .ok (.ireturn, 1) := by decide +kernel
theorem mr_327 : mR 327 = some .int := by decide +kernel
theorem d_327_7 : decode (mC 327) 7 = .ok (.aload_n 0, 1) := by decide +kernel
theorem d_327_8 : decode (mC 327) 8 = .ok (.getfield 106, 3) := by decide +kernel
theorem d_327_11 : decode (mC 327) 11 = .ok (.iload_n 1, 1) := by decide +kernel
theorem d_327_12 : decode (mC 327) 12 = .ok (.baload, 1) := by decide +kernel
theorem d_327_13 : decode (mC 327) 13 = .ok (.ifCond .ne 5, 3) := by decide +kernel
theorem d_327_18 : decode (mC 327) 18 = .ok (.iconst 0, 1) := by decide +kernel
theorem d_327_19 : decode (mC 327) 19 = .ok (.istore_n 2, 1) := by decide +kernel
theorem d_327_47 : decode (mC 327) 47 = .ok (.aload_n 0, 1) := by decide +kernel
theorem d_327_48 : decode (mC 327) 48 = .ok (.iconst 0, 1) := by decide +kernel
theorem d_327_49 : decode (mC 327) 49 = .ok (.putfield 387, 3) := by decide +kernel
theorem d_327_52 : decode (mC 327) 52 = .ok (.aload_n 0, 1) := by decide +kernel
theorem d_327_53 : decode (mC 327) 53 = .ok (.iconst 0, 1) := by decide +kernel
theorem d_327_54 : decode (mC 327) 54 = .ok (.putfield 390, 3) := by decide +kernel
theorem d_327_57 : decode (mC 327) 57 = .ok (.aload_n 0, 1) := by decide +kernel
theorem d_327_58 : decode (mC 327) 58 = .ok (.getfield 66, 3) := by decide +kernel
theorem d_327_61 : decode (mC 327) 61 = .ok (.iconst 0, 1) := by decide +kernel
theorem d_327_62 : decode (mC 327) 62 = .ok (.iaload, 1) := by decide +kernel
theorem d_327_63 : decode (mC 327) 63 = .ok (.ireturn, 1) := by decide +kernel
theorem d_328_0 : decode (mC 328) 0 = .ok (.iload_n 1, 1) := by decide +kernel
theorem d_328_1 : decode (mC 328) 1 = .ok (.tableswitch 158 0 14 #[75, 80, 85, 92, 99, 106, 113, 118, 123, 128, 133, 138, 143, 148, 153], 75) := by decide +kernel
theorem d_328_76 : decode (mC 328) 76 = .ok (.aload_n 0, 1) := by decide +kernel
theorem d_328_77 : decode (mC 328) 77 = .ok (.getfield 303, 3) := by decide +kernel
theorem cn_328 : (mN 328).cls = "CordLoftModel" := by decide +kernel
theorem d_328_80 : decode (mC 328) 80 = .ok (.ireturn, 1) := by decide +kernel
theorem mr_328 : mR 328 = some .int := by decide +kernel
theorem d_328_81 : decode (mC 328) 81 = .ok (.aload_n 0, 1) := by decide +kernel
theorem d_328_82 : decode (mC 328) 82 = .ok (.getfield 369, 3) := by decide +kernel
theorem d_328_85 : decode (mC 328) 85 = .ok (.ireturn, 1) := by decide +kernel
theorem d_328_86 : decode (mC 328) 86 = .ok (.aload_n 0, 1) := by decide +kernel
theorem d_328_87 : decode (mC 328) 87 = .ok (.getfield 66, 3) := by decide +kernel
theorem d_328_90 : decode (mC 328) 90 = .ok (.iconst 1, 1) := by decide +kernel
theorem d_328_91 : decode (mC 328) 91 = .ok (.iaload, 1) := by decide +kernel
theorem d_328_92 : decode (mC 328) 92 = .ok (.ireturn, 1) := by decide +kernel
theorem d_328_93 : decode (mC 328) 93 = .ok (.aload_n 0, 1) := by decide +kernel
theorem d_328_94 : decode (mC 328) 94 = .ok (.getfield 66, 3) := by decide +kernel
theorem d_328_97 : decode (mC 328) 97 = .ok (.iconst 2, 1) := by decide +kernel
theorem d_328_98 : decode (mC 328) 98 = .ok (.iaload, 1) := by decide +kernel
theorem d_328_99 : decode (mC 328) 99 = .ok (.ireturn, 1) := by decide +kernel
theorem d_328_100 : decode (mC 328) 100 = .ok (.aload_n 0, 1) := by decide +kernel
theorem d_328_101 : decode (mC 328) 101 = .ok (.getfield 66, 3) := by decide +kernel
theorem d_328_104 : decode (mC 328) 104 = .ok (.iconst 3, 1) := by decide +kernel
theorem d_328_105 : decode (mC 328) 105 = .ok (.iaload, 1) := by decide +kernel
theorem d_328_106 : decode (mC 328) 106 = .ok (.ireturn, 1) := by decide +kernel
theorem d_328_107 : decode (mC 328) 107 = .ok (.aload_n 0, 1) := by decide +kernel
theorem d_328_108 : decode (mC 328) 108 = .ok (.getfield 66, 3) := by decide +kernel
theorem d_328_111 : decode (mC 328) 111 = .ok (.iconst 4, 1) := by decide +kernel
theorem d_328_112 : decode (mC 328) 112 = .ok (.iaload, 1) := by decide +kernel
theorem d_328_113 : decode (mC 328) 113 = .ok (.ireturn, 1) := by decide +kernel
theorem d_328_114 : decode (mC 328) 114 = .ok (.aload_n 0, 1) := by decide +kernel
