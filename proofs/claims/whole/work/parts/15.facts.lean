theorem d_231_30 : decode (mC 231) 30 = .ok (.aload_n 0, 1) := by decide +kernel
theorem d_231_31 : decode (mC 231) 31 = .ok (.getfield 152, 3) := by decide +kernel
theorem d_231_34 : decode (mC 231) 34 = .ok (.ifCond .ne 7, 3) := by decide +kernel
theorem d_231_41 : decode (mC 231) 41 = .ok (.return_, 1) := by decide +kernel
theorem mr_231 : mR 231 = none := by decide +kernel
theorem d_231_37 : decode (mC 231) 37 = .ok (.aload_n 0, 1) := by decide +kernel
theorem d_231_38 : decode (mC 231) 38 = .ok (.invokevirtual 202, 3) := by decide +kernel
theorem vk_231_202 : VK 231 202 205 0 12 := ⟨⟨List.mem_of_getElem? (i := 1525) (by decide +kernel), by decide +kernel⟩, List.mem_of_getElem? (i := 1527) (by decide +kernel), mo_205, m0_205, _, rfl, List.mem_of_getElem? (i := 31) (by decide +kernel), by decide⟩
theorem ml_231 : mL 231 = 2 := by decide +kernel
theorem d_232_18 : decode (mC 232) 18 = .ok (.iconst 1, 1) := by decide +kernel
theorem d_232_19 : decode (mC 232) 19 = .ok (.goto 4, 3) := by decide +kernel
theorem d_232_23 : decode (mC 232) 23 = .ok (.ireturn, 1) := by decide +kernel
theorem mr_232 : mR 232 = some .boolean := by decide +kernel
theorem d_232_0 : decode (mC 232) 0 = .ok (.aload_n 0, 1) := by decide +kernel
theorem d_232_1 : decode (mC 232) 1 = .ok (.getfield 242, 3) := by decide +kernel
theorem fk_CordLoftModel_242 : FK 0 "CordLoftModel" 242 12 20 := ⟨⟨_, rfl, by decide, List.mem_of_getElem? (i := 1311) (by decide +kernel)⟩, rfl, by decide⟩
theorem cn_232 : (mN 232).cls = "CordLoftModel" := by decide +kernel
theorem d_232_4 : decode (mC 232) 4 = .ok (.bipush 60, 2) := by decide +kernel
theorem d_232_6 : decode (mC 232) 6 = .ok (.if_icmp .eq 12, 3) := by decide +kernel
theorem d_232_9 : decode (mC 232) 9 = .ok (.aload_n 0, 1) := by decide +kernel
theorem d_232_10 : decode (mC 232) 10 = .ok (.getfield 245, 3) := by decide +kernel
theorem fk_CordLoftModel_245 : FK 0 "CordLoftModel" 245 12 22 := ⟨⟨_, rfl, by decide, List.mem_of_getElem? (i := 1313) (by decide +kernel)⟩, rfl, by decide⟩
theorem d_232_13 : decode (mC 232) 13 = .ok (.bipush 30, 2) := by decide +kernel
theorem d_232_15 : decode (mC 232) 15 = .ok (.if_icmp .ne 7, 3) := by decide +kernel
theorem d_232_22 : decode (mC 232) 22 = .ok (.iconst 0, 1) := by decide +kernel
theorem ml_232 : mL 232 = 1 := by decide +kernel
theorem d_233_0 : decode (mC 233) 0 = .ok (.aload_n 0, 1) := by decide +kernel
theorem d_233_1 : decode (mC 233) 1 = .ok (.dup, 1) := by decide +kernel
theorem d_233_2 : decode (mC 233) 2 = .ok (.getfield 242, 3) := by decide +kernel
theorem cn_233 : (mN 233).cls = "CordLoftModel" := by decide +kernel
theorem d_233_5 : decode (mC 233) 5 = .ok (.iconst 1, 1) := by decide +kernel
theorem d_233_6 : decode (mC 233) 6 = .ok (.iadd, 1) := by decide +kernel
theorem d_233_7 : decode (mC 233) 7 = .ok (.putfield 242, 3) := by decide +kernel
theorem fp_CordLoftModel_242 : FP 0 "CordLoftModel" 242 12 20 := ⟨⟨_, rfl, by decide, List.mem_of_getElem? (i := 1311) (by decide +kernel), rfl⟩, rfl, by decide, by decide +kernel⟩
theorem d_233_10 : decode (mC 233) 10 = .ok (.aload_n 0, 1) := by decide +kernel
theorem d_233_11 : decode (mC 233) 11 = .ok (.dup, 1) := by decide +kernel
theorem d_233_12 : decode (mC 233) 12 = .ok (.getfield 245, 3) := by decide +kernel
theorem d_233_15 : decode (mC 233) 15 = .ok (.iconst 1, 1) := by decide +kernel
theorem d_233_16 : decode (mC 233) 16 = .ok (.iadd, 1) := by decide +kernel
theorem d_233_17 : decode (mC 233) 17 = .ok (.putfield 245, 3) := by decide +kernel
theorem fp_CordLoftModel_245 : FP 0 "CordLoftModel" 245 12 22 := ⟨⟨_, rfl, by decide, List.mem_of_getElem? (i := 1313) (by decide +kernel), rfl⟩, rfl, by decide, by decide +kernel⟩
theorem d_233_20 : decode (mC 233) 20 = .ok (.return_, 1) := by decide +kernel
theorem mr_233 : mR 233 = none := by decide +kernel
theorem ml_233 : mL 233 = 1 := by decide +kernel
theorem d_234_0 : decode (mC 234) 0 = .ok (.aload_n 0, 1) := by decide +kernel
theorem d_234_1 : decode (mC 234) 1 = .ok (.getfield 139, 3) := by decide +kernel
theorem cn_234 : (mN 234).cls = "CordLoftModel" := by decide +kernel
theorem d_234_4 : decode (mC 234) 4 = .ok (.iconst 1, 1) := by decide +kernel
theorem d_234_5 : decode (mC 234) 5 = .ok (.if_icmp .eq 5, 3) := by decide +kernel
theorem d_234_10 : decode (mC 234) 10 = .ok (.aload_n 0, 1) := by decide +kernel
theorem d_234_11 : decode (mC 234) 11 = .ok (.getfield 132, 3) := by decide +kernel
theorem d_234_14 : decode (mC 234) 14 = .ok (.ldc2_w 157, 3) := by decide +kernel
theorem d_234_17 : decode (mC 234) 17 = .ok (.lcmp, 1) := by decide +kernel
theorem d_234_18 : decode (mC 234) 18 = .ok (.ifCond .ne 5, 3) := by decide +kernel
theorem d_234_23 : decode (mC 234) 23 = .ok (.aload_n 0, 1) := by decide +kernel
theorem d_234_24 : decode (mC 234) 24 = .ok (.getfield 132, 3) := by decide +kernel
theorem d_234_27 : decode (mC 234) 27 = .ok (.ldc2_w 177, 3) := by decide +kernel
theorem d_234_30 : decode (mC 234) 30 = .ok (.lcmp, 1) := by decide +kernel
theorem d_234_31 : decode (mC 234) 31 = .ok (.ifCond .ne 5, 3) := by decide +kernel
theorem d_234_36 : decode (mC 234) 36 = .ok (.aload_n 0, 1) := by decide +kernel
theorem d_234_37 : decode (mC 234) 37 = .ok (.getfield 132, 3) := by decide +kernel
theorem d_234_40 : decode (mC 234) 40 = .ok (.ldc2_w 179, 3) := by decide +kernel
theorem d_234_43 : decode (mC 234) 43 = .ok (.lcmp, 1) := by decide +kernel
theorem d_234_44 : decode (mC 234) 44 = .ok (.ifCond .ne 5, 3) := by decide +kernel
theorem d_234_49 : decode (mC 234) 49 = .ok (.aload_n 0, 1) := by decide +kernel
theorem d_234_50 : decode (mC 234) 50 = .ok (.getfield 132, 3) := by decide +kernel
theorem d_234_53 : decode (mC 234) 53 = .ok (.ldc2_w 181, 3) := by decide +kernel
theorem d_234_56 : decode (mC 234) 56 = .ok (.lcmp, 1) := by decide +kernel
theorem d_234_57 : decode (mC 234) 57 = .ok (.ifCond .ne 5, 3) := by decide +kernel
theorem d_234_62 : decode (mC 234) 62 = .ok (.aload_n 0, 1) := by decide +kernel
theorem d_234_63 : decode (mC 234) 63 = .ok (.getfield 132, 3) := by decide +kernel
theorem d_234_66 : decode (mC 234) 66 = .ok (.ldc2_w 159, 3) := by decide +kernel
theorem d_234_69 : decode (mC 234) 69 = .ok (.lcmp, 1) := by decide +kernel
theorem d_234_70 : decode (mC 234) 70 = .ok (.ifCond .ne 5, 3) := by decide +kernel
theorem d_234_75 : decode (mC 234) 75 = .ok (.aload_n 0, 1) := by decide +kernel
theorem d_234_76 : decode (mC 234) 76 = .ok (.getfield 132, 3) := by decide +kernel
theorem d_234_79 : decode (mC 234) 79 = .ok (.ldc2_w 183, 3) := by decide +kernel
theorem d_234_82 : decode (mC 234) 82 = .ok (.lcmp, 1) := by decide +kernel
theorem d_234_83 : decode (mC 234) 83 = .ok (.ifCond .ne 7, 3) := by decide +kernel
theorem d_234_90 : decode (mC 234) 90 = .ok (.iconst (-1), 1) := by decide +kernel
theorem d_234_91 : decode (mC 234) 91 = .ok (.ireturn, 1) := by decide +kernel
theorem mr_234 : mR 234 = some .int := by decide +kernel
theorem d_234_86 : decode (mC 234) 86 = .ok (.iconst 5, 1) := by decide +kernel
theorem d_234_87 : decode (mC 234) 87 = .ok (.goto 4, 3) := by decide +kernel
theorem d_234_73 : decode (mC 234) 73 = .ok (.iconst 4, 1) := by decide +kernel
theorem d_234_74 : decode (mC 234) 74 = .ok (.ireturn, 1) := by decide +kernel
theorem d_234_60 : decode (mC 234) 60 = .ok (.iconst 3, 1) := by decide +kernel
theorem d_234_61 : decode (mC 234) 61 = .ok (.ireturn, 1) := by decide +kernel
theorem d_234_47 : decode (mC 234) 47 = .ok (.iconst 2, 1) := by decide +kernel
theorem d_234_48 : decode (mC 234) 48 = .ok (.ireturn, 1) := by decide +kernel
theorem d_234_34 : decode (mC 234) 34 = .ok (.iconst 1, 1) := by decide +kernel
theorem d_234_35 : decode (mC 234) 35 = .ok (.ireturn, 1) := by decide +kernel
theorem d_234_21 : decode (mC 234) 21 = .ok (.iconst 0, 1) := by decide +kernel
theorem d_234_22 : decode (mC 234) 22 = .ok (.ireturn, 1) := by decide +kernel
theorem d_234_8 : decode (mC 234) 8 = .ok (.iconst (-1), 1) := by decide +kernel
theorem d_234_9 : decode (mC 234) 9 = .ok (.ireturn, 1) := by decide +kernel
theorem ml_234 : mL 234 = 1 := by decide +kernel
theorem d_235_0 : decode (mC 235) 0 = .ok (.aload_n 0, 1) := by decide +kernel
theorem d_235_1 : decode (mC 235) 1 = .ok (.getfield 21, 3) := by decide +kernel
theorem fk_CordLoftModel_21 : FK 2 "CordLoftModel" 21 12 11 := ⟨⟨_, rfl, by decide, List.mem_of_getElem? (i := 1302) (by decide +kernel)⟩, rfl, by decide⟩
theorem cn_235 : (mN 235).cls = "CordLoftModel" := by decide +kernel
theorem ft_13_11 : finT 13 11 = some (108, 0) := by decide +kernel
theorem k_108 : kd0 108 = 20 := by decide +kernel
theorem l_108 : ln0 108 = 320 := by decide +kernel
theorem d_235_4 : decode (mC 235) 4 = .ok (.aload_n 0, 1) := by decide +kernel
theorem d_235_5 : decode (mC 235) 5 = .ok (.getfield 226, 3) := by decide +kernel
theorem fk_CordLoftModel_226 : FK 0 "CordLoftModel" 226 12 17 := ⟨⟨_, rfl, by decide, List.mem_of_getElem? (i := 1308) (by decide +kernel)⟩, rfl, by decide⟩
theorem d_235_8 : decode (mC 235) 8 = .ok (.iload_n 1, 1) := by decide +kernel
theorem d_235_9 : decode (mC 235) 9 = .ok (.iastore, 1) := by decide +kernel
theorem d_235_10 : decode (mC 235) 10 = .ok (.aload_n 0, 1) := by decide +kernel
theorem d_235_11 : decode (mC 235) 11 = .ok (.getfield 24, 3) := by decide +kernel
theorem fk_CordLoftModel_24 : FK 2 "CordLoftModel" 24 12 12 := ⟨⟨_, rfl, by decide, List.mem_of_getElem? (i := 1303) (by decide +kernel)⟩, rfl, by decide⟩
theorem ft_13_12 : finT 13 12 = some (109, 0) := by decide +kernel
theorem k_109 : kd0 109 = 20 := by decide +kernel
theorem l_109 : ln0 109 = 320 := by decide +kernel
theorem d_235_14 : decode (mC 235) 14 = .ok (.aload_n 0, 1) := by decide +kernel
theorem d_235_15 : decode (mC 235) 15 = .ok (.getfield 226, 3) := by decide +kernel
theorem d_235_18 : decode (mC 235) 18 = .ok (.iload_n 2, 1) := by decide +kernel
theorem d_235_19 : decode (mC 235) 19 = .ok (.iastore, 1) := by decide +kernel
theorem d_235_20 : decode (mC 235) 20 = .ok (.aload_n 0, 1) := by decide +kernel
theorem d_235_21 : decode (mC 235) 21 = .ok (.dup, 1) := by decide +kernel
theorem d_235_22 : decode (mC 235) 22 = .ok (.getfield 226, 3) := by decide +kernel
theorem d_235_25 : decode (mC 235) 25 = .ok (.iconst 1, 1) := by decide +kernel
theorem d_235_26 : decode (mC 235) 26 = .ok (.iadd, 1) := by decide +kernel
theorem d_235_27 : decode (mC 235) 27 = .ok (.putfield 226, 3) := by decide +kernel
theorem fp_CordLoftModel_226 : FP 0 "CordLoftModel" 226 12 17 := ⟨⟨_, rfl, by decide, List.mem_of_getElem? (i := 1308) (by decide +kernel), rfl⟩, rfl, by decide, by decide +kernel⟩
theorem d_235_30 : decode (mC 235) 30 = .ok (.return_, 1) := by decide +kernel
theorem mr_235 : mR 235 = none := by decide +kernel
theorem ml_235 : mL 235 = 3 := by decide +kernel
theorem d_228_172 : decode (mC 228) 172 = .ok (.invokevirtual 235, 3) := by decide +kernel
theorem mo_235 : MOK 235 := ⟨List.mem_of_getElem? (i := 1661) (by decide +kernel), by decide +kernel, ⟨by decide +kernel, by decide +kernel⟩, List.mem_of_getElem? (i := 100) (by decide +kernel), by decide +kernel⟩
theorem m0_235 : M0K 235 := ⟨by decide +kernel, by decide +kernel⟩
theorem vk_228_235 : VK 228 235 235 2 12 := ⟨⟨List.mem_of_getElem? (i := 1658) (by decide +kernel), by decide +kernel⟩, List.mem_of_getElem? (i := 1660) (by decide +kernel), mo_235, m0_235, _, rfl, List.mem_of_getElem? (i := 56) (by decide +kernel), by decide⟩
theorem d_228_175 : decode (mC 228) 175 = .ok (.aload_n 0, 1) := by decide +kernel
theorem d_228_176 : decode (mC 228) 176 = .ok (.invokevirtual 202, 3) := by decide +kernel
theorem vk_228_202 : VK 228 202 205 0 12 := ⟨⟨List.mem_of_getElem? (i := 1525) (by decide +kernel), by decide +kernel⟩, List.mem_of_getElem? (i := 1527) (by decide +kernel), mo_205, m0_205, _, rfl, List.mem_of_getElem? (i := 31) (by decide +kernel), by decide⟩
theorem d_228_179 : decode (mC 228) 179 = .ok (.return_, 1) := by decide +kernel
theorem mr_228 : mR 228 = none := by decide +kernel
theorem d_228_160 : decode (mC 228) 160 = .ok (.iload_n 2, 1) := by decide +kernel
theorem d_228_161 : decode (mC 228) 161 = .ok (.ifCond .ge 10, 3) := by decide +kernel
theorem d_228_171 : decode (mC 228) 171 = .ok (.iload_n 2, 1) := by decide +kernel
theorem d_228_164 : decode (mC 228) 164 = .ok (.aload_n 0, 1) := by decide +kernel
theorem d_228_165 : decode (mC 228) 165 = .ok (.getfield 136, 3) := by decide +kernel
theorem cn_228 : (mN 228).cls = "CordLoftModel" := by decide +kernel
theorem d_228_168 : decode (mC 228) 168 = .ok (.goto 4, 3) := by decide +kernel
theorem d_228_138 : decode (mC 228) 138 = .ok (.aload_n 0, 1) := by decide +kernel
theorem d_228_139 : decode (mC 228) 139 = .ok (.getfield 152, 3) := by decide +kernel
theorem d_228_142 : decode (mC 228) 142 = .ok (.ifCond .le 4, 3) := by decide +kernel
theorem d_228_146 : decode (mC 228) 146 = .ok (.aload_n 0, 1) := by decide +kernel
theorem d_228_147 : decode (mC 228) 147 = .ok (.invokevirtual 257, 3) := by decide +kernel
theorem mo_233 : MOK 233 := ⟨List.mem_of_getElem? (i := 1653) (by decide +kernel), by decide +kernel, ⟨by decide +kernel, by decide +kernel⟩, List.mem_of_getElem? (i := 100) (by decide +kernel), by decide +kernel⟩
theorem m0_233 : M0K 233 := ⟨by decide +kernel, by decide +kernel⟩
theorem vk_228_257 : VK 228 257 233 0 12 := ⟨⟨List.mem_of_getElem? (i := 1650) (by decide +kernel), by decide +kernel⟩, List.mem_of_getElem? (i := 1652) (by decide +kernel), mo_233, m0_233, _, rfl, List.mem_of_getElem? (i := 54) (by decide +kernel), by decide⟩
theorem d_228_150 : decode (mC 228) 150 = .ok (.aload_n 0, 1) := by decide +kernel
theorem d_228_151 : decode (mC 228) 151 = .ok (.iload_n 2, 1) := by decide +kernel
theorem d_228_152 : decode (mC 228) 152 = .ok (.ifCond .ge 7, 3) := by decide +kernel
theorem d_228_159 : decode (mC 228) 159 = .ok (.iconst 1, 1) := by decide +kernel
theorem d_228_155 : decode (mC 228) 155 = .ok (.iconst 0, 1) := by decide +kernel
theorem d_228_156 : decode (mC 228) 156 = .ok (.goto 4, 3) := by decide +kernel
theorem d_228_145 : decode (mC 228) 145 = .ok (.return_, 1) := by decide +kernel
theorem d_228_133 : decode (mC 228) 133 = .ok (.aload_n 0, 1) := by decide +kernel
theorem d_228_134 : decode (mC 228) 134 = .ok (.iconst 2, 1) := by decide +kernel
theorem d_228_135 : decode (mC 228) 135 = .ok (.invokevirtual 199, 3) := by decide +kernel
theorem vk_228_199 : VK 228 199 216 1 12 := ⟨⟨List.mem_of_getElem? (i := 1584) (by decide +kernel), by decide +kernel⟩, List.mem_of_getElem? (i := 1586) (by decide +kernel), mo_216, m0_216, _, rfl, List.mem_of_getElem? (i := 39) (by decide +kernel), by decide⟩
theorem d_228_126 : decode (mC 228) 126 = .ok (.aload_n 0, 1) := by decide +kernel
theorem d_228_127 : decode (mC 228) 127 = .ok (.invokevirtual 254, 3) := by decide +kernel
theorem mo_232 : MOK 232 := ⟨List.mem_of_getElem? (i := 1649) (by decide +kernel), by decide +kernel, ⟨by decide +kernel, by decide +kernel⟩, List.mem_of_getElem? (i := 100) (by decide +kernel), by decide +kernel⟩
theorem m0_232 : M0K 232 := ⟨by decide +kernel, by decide +kernel⟩
theorem vk_228_254 : VK 228 254 232 0 12 := ⟨⟨List.mem_of_getElem? (i := 1646) (by decide +kernel), by decide +kernel⟩, List.mem_of_getElem? (i := 1648) (by decide +kernel), mo_232, m0_232, _, rfl, List.mem_of_getElem? (i := 53) (by decide +kernel), by decide⟩
theorem d_228_130 : decode (mC 228) 130 = .ok (.ifCond .eq 8, 3) := by decide +kernel
theorem d_228_83 : decode (mC 228) 83 = .ok (.aload_n 0, 1) := by decide +kernel
theorem d_228_84 : decode (mC 228) 84 = .ok (.invokevirtual 257, 3) := by decide +kernel
theorem d_228_87 : decode (mC 228) 87 = .ok (.aload_n 0, 1) := by decide +kernel
theorem d_228_88 : decode (mC 228) 88 = .ok (.bipush 20, 2) := by decide +kernel
theorem d_228_90 : decode (mC 228) 90 = .ok (.invokevirtual 251, 3) := by decide +kernel
theorem mo_231 : MOK 231 := ⟨List.mem_of_getElem? (i := 1645) (by decide +kernel), by decide +kernel, ⟨by decide +kernel, by decide +kernel⟩, List.mem_of_getElem? (i := 100) (by decide +kernel), by decide +kernel⟩
theorem m0_231 : M0K 231 := ⟨by decide +kernel, by decide +kernel⟩
theorem vk_228_251 : VK 228 251 231 1 12 := ⟨⟨List.mem_of_getElem? (i := 1642) (by decide +kernel), by decide +kernel⟩, List.mem_of_getElem? (i := 1644) (by decide +kernel), mo_231, m0_231, _, rfl, List.mem_of_getElem? (i := 52) (by decide +kernel), by decide⟩
theorem d_228_93 : decode (mC 228) 93 = .ok (.goto (-91), 3) := by decide +kernel
theorem d_228_78 : decode (mC 228) 78 = .ok (.aload_n 0, 1) := by decide +kernel
theorem d_228_79 : decode (mC 228) 79 = .ok (.iconst 2, 1) := by decide +kernel
theorem d_228_80 : decode (mC 228) 80 = .ok (.invokevirtual 199, 3) := by decide +kernel
theorem d_228_53 : decode (mC 228) 53 = .ok (.aload_n 0, 1) := by decide +kernel
theorem d_228_54 : decode (mC 228) 54 = .ok (.getfield 139, 3) := by decide +kernel
theorem d_228_57 : decode (mC 228) 57 = .ok (.bipush 40, 2) := by decide +kernel
theorem d_228_59 : decode (mC 228) 59 = .ok (.if_icmp .ne 37, 3) := by decide +kernel
theorem d_228_96 : decode (mC 228) 96 = .ok (.iconst 0, 1) := by decide +kernel
theorem d_228_97 : decode (mC 228) 97 = .ok (.istore_n 1, 1) := by decide +kernel
theorem ml_228 : mL 228 = 3 := by decide +kernel
theorem d_228_98 : decode (mC 228) 98 = .ok (.goto (-96), 3) := by decide +kernel
theorem d_228_62 : decode (mC 228) 62 = .ok (.aload_n 0, 1) := by decide +kernel
theorem d_228_63 : decode (mC 228) 63 = .ok (.invokevirtual 254, 3) := by decide +kernel
theorem d_228_66 : decode (mC 228) 66 = .ok (.ifCond .ne 12, 3) := by decide +kernel
theorem d_228_69 : decode (mC 228) 69 = .ok (.aload_n 0, 1) := by decide +kernel
theorem d_228_70 : decode (mC 228) 70 = .ok (.getfield 239, 3) := by decide +kernel
theorem d_228_73 : decode (mC 228) 73 = .ok (.bipush 6, 2) := by decide +kernel
theorem d_228_75 : decode (mC 228) 75 = .ok (.if_icmp .le 8, 3) := by decide +kernel
theorem d_228_44 : decode (mC 228) 44 = .ok (.aload_n 0, 1) := by decide +kernel
theorem d_228_45 : decode (mC 228) 45 = .ok (.bipush 21, 2) := by decide +kernel
theorem bi_21 : (Int8.ofInt 21).toInt32 = 21 := by decide +kernel
theorem d_228_47 : decode (mC 228) 47 = .ok (.invokevirtual 251, 3) := by decide +kernel
theorem d_228_50 : decode (mC 228) 50 = .ok (.goto (-48), 3) := by decide +kernel
theorem d_228_2 : decode (mC 228) 2 = .ok (.iload_n 1, 1) := by decide +kernel
theorem d_228_3 : decode (mC 228) 3 = .ok (.ifCond .eq 98, 3) := by decide +kernel
theorem d_228_6 : decode (mC 228) 6 = .ok (.aload_n 0, 1) := by decide +kernel
theorem d_228_7 : decode (mC 228) 7 = .ok (.getfield 152, 3) := by decide +kernel
theorem d_228_10 : decode (mC 228) 10 = .ok (.ifCond .ne 91, 3) := by decide +kernel
theorem d_228_13 : decode (mC 228) 13 = .ok (.aload_n 0, 1) := by decide +kernel
theorem d_228_14 : decode (mC 228) 14 = .ok (.ldc2_w 189, 3) := by decide +kernel
theorem d_228_17 : decode (mC 228) 17 = .ok (.invokevirtual 195, 3) := by decide +kernel
theorem vk_228_195 : VK 228 195 211 1 12 := ⟨⟨List.mem_of_getElem? (i := 1547) (by decide +kernel), by decide +kernel⟩, List.mem_of_getElem? (i := 1549) (by decide +kernel), mo_211, m0_211, _, rfl, List.mem_of_getElem? (i := 34) (by decide +kernel), by decide⟩
theorem d_228_20 : decode (mC 228) 20 = .ok (.ifCond .eq 33, 3) := by decide +kernel
theorem d_228_23 : decode (mC 228) 23 = .ok (.aload_n 0, 1) := by decide +kernel
theorem d_228_24 : decode (mC 228) 24 = .ok (.invokevirtual 248, 3) := by decide +kernel
theorem mo_229 : MOK 229 := ⟨List.mem_of_getElem? (i := 1638) (by decide +kernel), by decide +kernel, ⟨by decide +kernel, by decide +kernel⟩, List.mem_of_getElem? (i := 100) (by decide +kernel), by decide +kernel⟩
theorem m0_229 : M0K 229 := ⟨by decide +kernel, by decide +kernel⟩
theorem vk_228_248 : VK 228 248 229 0 12 := ⟨⟨List.mem_of_getElem? (i := 1635) (by decide +kernel), by decide +kernel⟩, List.mem_of_getElem? (i := 1637) (by decide +kernel), mo_229, m0_229, _, rfl, List.mem_of_getElem? (i := 51) (by decide +kernel), by decide⟩
theorem d_228_27 : decode (mC 228) 27 = .ok (.ifCond .eq 26, 3) := by decide +kernel
theorem d_228_30 : decode (mC 228) 30 = .ok (.aload_n 0, 1) := by decide +kernel
theorem d_228_31 : decode (mC 228) 31 = .ok (.getfield 239, 3) := by decide +kernel
theorem d_228_34 : decode (mC 228) 34 = .ok (.bipush 6, 2) := by decide +kernel
theorem d_228_36 : decode (mC 228) 36 = .ok (.if_icmp .le 8, 3) := by decide +kernel
theorem d_228_39 : decode (mC 228) 39 = .ok (.aload_n 0, 1) := by decide +kernel
theorem d_228_40 : decode (mC 228) 40 = .ok (.iconst 2, 1) := by decide +kernel
theorem d_228_41 : decode (mC 228) 41 = .ok (.invokevirtual 199, 3) := by decide +kernel
theorem d_228_0 : decode (mC 228) 0 = .ok (.iconst 1, 1) := by decide +kernel
theorem d_228_1 : decode (mC 228) 1 = .ok (.istore_n 1, 1) := by decide +kernel
theorem d_228_101 : decode (mC 228) 101 = .ok (.aload_n 0, 1) := by decide +kernel
theorem d_228_102 : decode (mC 228) 102 = .ok (.getfield 152, 3) := by decide +kernel
theorem d_228_105 : decode (mC 228) 105 = .ok (.ifCond .le 4, 3) := by decide +kernel
theorem d_228_109 : decode (mC 228) 109 = .ok (.aload_n 0, 1) := by decide +kernel
theorem d_228_110 : decode (mC 228) 110 = .ok (.invokevirtual 260, 3) := by decide +kernel
theorem mo_234 : MOK 234 := ⟨List.mem_of_getElem? (i := 1657) (by decide +kernel), by decide +kernel, ⟨by decide +kernel, by decide +kernel⟩, List.mem_of_getElem? (i := 100) (by decide +kernel), by decide +kernel⟩
theorem m0_234 : M0K 234 := ⟨by decide +kernel, by decide +kernel⟩
theorem vk_228_260 : VK 228 260 234 0 12 := ⟨⟨List.mem_of_getElem? (i := 1654) (by decide +kernel), by decide +kernel⟩, List.mem_of_getElem? (i := 1656) (by decide +kernel), mo_234, m0_234, _, rfl, List.mem_of_getElem? (i := 55) (by decide +kernel), by decide⟩
theorem d_228_113 : decode (mC 228) 113 = .ok (.istore_n 2, 1) := by decide +kernel
theorem d_228_114 : decode (mC 228) 114 = .ok (.aload_n 0, 1) := by decide +kernel
theorem d_228_115 : decode (mC 228) 115 = .ok (.getfield 139, 3) := by decide +kernel
theorem d_228_118 : decode (mC 228) 118 = .ok (.iconst 2, 1) := by decide +kernel
theorem d_228_119 : decode (mC 228) 119 = .ok (.if_icmp .eq 7, 3) := by decide +kernel
theorem d_228_122 : decode (mC 228) 122 = .ok (.iload_n 2, 1) := by decide +kernel
theorem d_228_123 : decode (mC 228) 123 = .ok (.ifCond .lt 10, 3) := by decide +kernel
theorem d_228_108 : decode (mC 228) 108 = .ok (.return_, 1) := by decide +kernel
theorem d_236_98 : decode (mC 236) 98 = .ok (.aload_n 0, 1) := by decide +kernel
theorem d_236_99 : decode (mC 236) 99 = .ok (.getfield 139, 3) := by decide +kernel
theorem cn_236 : (mN 236).cls = "CordLoftModel" := by decide +kernel
theorem d_236_102 : decode (mC 236) 102 = .ok (.goto 4, 3) := by decide +kernel
theorem d_236_106 : decode (mC 236) 106 = .ok (.ireturn, 1) := by decide +kernel
theorem mr_236 : mR 236 = some .int := by decide +kernel
theorem d_236_0 : decode (mC 236) 0 = .ok (.aload_n 0, 1) := by decide +kernel
theorem d_236_1 : decode (mC 236) 1 = .ok (.ldc2_w 185, 3) := by decide +kernel
theorem d_236_4 : decode (mC 236) 4 = .ok (.invokevirtual 195, 3) := by decide +kernel
theorem vk_236_195 : VK 236 195 211 1 12 := ⟨⟨List.mem_of_getElem? (i := 1547) (by decide +kernel), by decide +kernel⟩, List.mem_of_getElem? (i := 1549) (by decide +kernel), mo_211, m0_211, _, rfl, List.mem_of_getElem? (i := 34) (by decide +kernel), by decide⟩
theorem d_236_7 : decode (mC 236) 7 = .ok (.ifCond .eq 6, 3) := by decide +kernel
theorem d_236_13 : decode (mC 236) 13 = .ok (.aload_n 0, 1) := by decide +kernel
theorem d_236_14 : decode (mC 236) 14 = .ok (.ldc2_w 187, 3) := by decide +kernel
theorem d_236_17 : decode (mC 236) 17 = .ok (.invokevirtual 195, 3) := by decide +kernel
theorem d_236_20 : decode (mC 236) 20 = .ok (.ifCond .eq 6, 3) := by decide +kernel
theorem d_236_26 : decode (mC 236) 26 = .ok (.aload_n 0, 1) := by decide +kernel
theorem d_236_27 : decode (mC 236) 27 = .ok (.getfield 139, 3) := by decide +kernel
theorem d_236_30 : decode (mC 236) 30 = .ok (.bipush 60, 2) := by decide +kernel
theorem d_236_32 : decode (mC 236) 32 = .ok (.if_icmp .eq 66, 3) := by decide +kernel
theorem d_236_35 : decode (mC 236) 35 = .ok (.aload_n 0, 1) := by decide +kernel
theorem d_236_36 : decode (mC 236) 36 = .ok (.getfield 139, 3) := by decide +kernel
theorem d_236_39 : decode (mC 236) 39 = .ok (.bipush 62, 2) := by decide +kernel
theorem d_236_41 : decode (mC 236) 41 = .ok (.if_icmp .eq 57, 3) := by decide +kernel
theorem d_236_44 : decode (mC 236) 44 = .ok (.aload_n 0, 1) := by decide +kernel
theorem d_236_45 : decode (mC 236) 45 = .ok (.getfield 139, 3) := by decide +kernel
theorem d_236_48 : decode (mC 236) 48 = .ok (.bipush 61, 2) := by decide +kernel
theorem d_236_50 : decode (mC 236) 50 = .ok (.if_icmp .eq 48, 3) := by decide +kernel
theorem d_236_53 : decode (mC 236) 53 = .ok (.aload_n 0, 1) := by decide +kernel
theorem d_236_54 : decode (mC 236) 54 = .ok (.getfield 139, 3) := by decide +kernel
theorem d_236_57 : decode (mC 236) 57 = .ok (.bipush 43, 2) := by decide +kernel
theorem d_236_59 : decode (mC 236) 59 = .ok (.if_icmp .eq 39, 3) := by decide +kernel
theorem d_236_62 : decode (mC 236) 62 = .ok (.aload_n 0, 1) := by decide +kernel
theorem d_236_63 : decode (mC 236) 63 = .ok (.getfield 139, 3) := by decide +kernel
theorem d_236_66 : decode (mC 236) 66 = .ok (.bipush 45, 2) := by decide +kernel
theorem d_236_68 : decode (mC 236) 68 = .ok (.if_icmp .eq 30, 3) := by decide +kernel
theorem d_236_71 : decode (mC 236) 71 = .ok (.aload_n 0, 1) := by decide +kernel
theorem d_236_72 : decode (mC 236) 72 = .ok (.getfield 139, 3) := by decide +kernel
theorem d_236_75 : decode (mC 236) 75 = .ok (.bipush 42, 2) := by decide +kernel
theorem d_236_77 : decode (mC 236) 77 = .ok (.if_icmp .eq 21, 3) := by decide +kernel
theorem d_236_80 : decode (mC 236) 80 = .ok (.aload_n 0, 1) := by decide +kernel
theorem d_236_81 : decode (mC 236) 81 = .ok (.getfield 139, 3) := by decide +kernel
theorem d_236_84 : decode (mC 236) 84 = .ok (.bipush 47, 2) := by decide +kernel
theorem d_236_86 : decode (mC 236) 86 = .ok (.if_icmp .eq 12, 3) := by decide +kernel
theorem d_236_89 : decode (mC 236) 89 = .ok (.aload_n 0, 1) := by decide +kernel
theorem d_236_90 : decode (mC 236) 90 = .ok (.getfield 139, 3) := by decide +kernel
theorem d_236_93 : decode (mC 236) 93 = .ok (.bipush 37, 2) := by decide +kernel
theorem d_236_95 : decode (mC 236) 95 = .ok (.if_icmp .ne 10, 3) := by decide +kernel
theorem d_236_105 : decode (mC 236) 105 = .ok (.iconst 0, 1) := by decide +kernel
theorem d_236_23 : decode (mC 236) 23 = .ok (.bipush 124, 2) := by decide +kernel
theorem bi_124 : (Int8.ofInt 124).toInt32 = 124 := by decide +kernel
theorem d_236_25 : decode (mC 236) 25 = .ok (.ireturn, 1) := by decide +kernel
theorem d_236_10 : decode (mC 236) 10 = .ok (.bipush 38, 2) := by decide +kernel
theorem bi_38 : (Int8.ofInt 38).toInt32 = 38 := by decide +kernel
theorem d_236_12 : decode (mC 236) 12 = .ok (.ireturn, 1) := by decide +kernel
theorem ml_236 : mL 236 = 1 := by decide +kernel
theorem d_237_27 : decode (mC 237) 27 = .ok (.iconst 1, 1) := by decide +kernel
theorem d_237_28 : decode (mC 237) 28 = .ok (.goto 4, 3) := by decide +kernel
theorem d_237_32 : decode (mC 237) 32 = .ok (.istore_n 1, 1) := by decide +kernel
theorem ml_237 : mL 237 = 3 := by decide +kernel
theorem d_237_33 : decode (mC 237) 33 = .ok (.iinc 2 1, 3) := by decide +kernel
theorem d_237_36 : decode (mC 237) 36 = .ok (.goto (-32), 3) := by decide +kernel
theorem d_237_4 : decode (mC 237) 4 = .ok (.iload_n 2, 1) := by decide +kernel
theorem d_237_5 : decode (mC 237) 5 = .ok (.aload_n 0, 1) := by decide +kernel
theorem d_237_6 : decode (mC 237) 6 = .ok (.getfield 229, 3) := by decide +kernel
theorem cn_237 : (mN 237).cls = "CordLoftModel" := by decide +kernel
theorem d_237_9 : decode (mC 237) 9 = .ok (.if_icmp .ge 30, 3) := by decide +kernel
theorem d_237_12 : decode (mC 237) 12 = .ok (.iload_n 1, 1) := by decide +kernel
theorem d_237_13 : decode (mC 237) 13 = .ok (.ifCond .ne 14, 3) := by decide +kernel
theorem d_237_16 : decode (mC 237) 16 = .ok (.aload_n 0, 1) := by decide +kernel
theorem d_237_17 : decode (mC 237) 17 = .ok (.getfield 33, 3) := by decide +kernel
theorem d_237_20 : decode (mC 237) 20 = .ok (.iload_n 2, 1) := by decide +kernel
theorem d_237_21 : decode (mC 237) 21 = .ok (.iaload, 1) := by decide +kernel
theorem d_237_22 : decode (mC 237) 22 = .ok (.bipush 20, 2) := by decide +kernel
theorem d_237_24 : decode (mC 237) 24 = .ok (.if_icmp .ne 7, 3) := by decide +kernel
theorem d_237_31 : decode (mC 237) 31 = .ok (.iconst 0, 1) := by decide +kernel
theorem d_237_0 : decode (mC 237) 0 = .ok (.iconst 0, 1) := by decide +kernel
theorem d_237_1 : decode (mC 237) 1 = .ok (.istore_n 1, 1) := by decide +kernel
theorem d_237_2 : decode (mC 237) 2 = .ok (.iconst 0, 1) := by decide +kernel
theorem d_237_3 : decode (mC 237) 3 = .ok (.istore_n 2, 1) := by decide +kernel
theorem d_237_39 : decode (mC 237) 39 = .ok (.iload_n 1, 1) := by decide +kernel
theorem d_237_40 : decode (mC 237) 40 = .ok (.ireturn, 1) := by decide +kernel
theorem mr_237 : mR 237 = some .boolean := by decide +kernel
theorem d_238_0 : decode (mC 238) 0 = .ok (.aload_n 0, 1) := by decide +kernel
theorem d_238_1 : decode (mC 238) 1 = .ok (.getfield 229, 3) := by decide +kernel
theorem cn_238 : (mN 238).cls = "CordLoftModel" := by decide +kernel
theorem d_238_4 : decode (mC 238) 4 = .ok (.ifCond .le 97, 3) := by decide +kernel
theorem d_238_7 : decode (mC 238) 7 = .ok (.aload_n 0, 1) := by decide +kernel
theorem d_238_8 : decode (mC 238) 8 = .ok (.getfield 33, 3) := by decide +kernel
theorem d_238_11 : decode (mC 238) 11 = .ok (.aload_n 0, 1) := by decide +kernel
theorem d_238_12 : decode (mC 238) 12 = .ok (.getfield 229, 3) := by decide +kernel
theorem d_238_15 : decode (mC 238) 15 = .ok (.iconst 1, 1) := by decide +kernel
theorem d_238_16 : decode (mC 238) 16 = .ok (.isub, 1) := by decide +kernel
theorem d_238_17 : decode (mC 238) 17 = .ok (.iaload, 1) := by decide +kernel
theorem d_238_18 : decode (mC 238) 18 = .ok (.bipush 20, 2) := by decide +kernel
theorem d_238_20 : decode (mC 238) 20 = .ok (.if_icmp .eq 81, 3) := by decide +kernel
theorem d_238_23 : decode (mC 238) 23 = .ok (.aload_n 0, 1) := by decide +kernel
theorem d_238_24 : decode (mC 238) 24 = .ok (.getfield 33, 3) := by decide +kernel
theorem d_238_27 : decode (mC 238) 27 = .ok (.aload_n 0, 1) := by decide +kernel
theorem d_238_28 : decode (mC 238) 28 = .ok (.getfield 229, 3) := by decide +kernel
theorem d_238_31 : decode (mC 238) 31 = .ok (.iconst 1, 1) := by decide +kernel
theorem d_238_32 : decode (mC 238) 32 = .ok (.isub, 1) := by decide +kernel
theorem d_238_33 : decode (mC 238) 33 = .ok (.iaload, 1) := by decide +kernel
theorem d_238_34 : decode (mC 238) 34 = .ok (.invokestatic 232, 3) := by decide +kernel
theorem sk_238_232 : SKc 238 232 230 1 := ⟨⟨List.mem_of_getElem? (i := 1639) (by decide +kernel), by decide +kernel⟩, List.mem_of_getElem? (i := 1640) (by decide +kernel), mo_230, m0_230⟩
theorem d_238_37 : decode (mC 238) 37 = .ok (.iload_n 1, 1) := by decide +kernel
theorem d_238_38 : decode (mC 238) 38 = .ok (.if_icmp .lt 63, 3) := by decide +kernel
theorem d_238_41 : decode (mC 238) 41 = .ok (.aload_n 0, 1) := by decide +kernel
theorem d_238_42 : decode (mC 238) 42 = .ok (.dup, 1) := by decide +kernel
theorem d_238_43 : decode (mC 238) 43 = .ok (.getfield 229, 3) := by decide +kernel
theorem d_238_46 : decode (mC 238) 46 = .ok (.iconst 1, 1) := by decide +kernel
theorem d_238_47 : decode (mC 238) 47 = .ok (.isub, 1) := by decide +kernel
theorem d_238_48 : decode (mC 238) 48 = .ok (.putfield 229, 3) := by decide +kernel
theorem d_238_51 : decode (mC 238) 51 = .ok (.aload_n 0, 1) := by decide +kernel
theorem d_238_52 : decode (mC 238) 52 = .ok (.getfield 33, 3) := by decide +kernel
theorem d_238_55 : decode (mC 238) 55 = .ok (.aload_n 0, 1) := by decide +kernel
theorem d_238_56 : decode (mC 238) 56 = .ok (.getfield 229, 3) := by decide +kernel
theorem d_238_59 : decode (mC 238) 59 = .ok (.iaload, 1) := by decide +kernel
theorem d_238_60 : decode (mC 238) 60 = .ok (.bipush 21, 2) := by decide +kernel
theorem d_238_62 : decode (mC 238) 62 = .ok (.if_icmp .ne 22, 3) := by decide +kernel
theorem d_238_84 : decode (mC 238) 84 = .ok (.aload_n 0, 1) := by decide +kernel
theorem d_238_85 : decode (mC 238) 85 = .ok (.iconst 3, 1) := by decide +kernel
theorem d_238_86 : decode (mC 238) 86 = .ok (.aload_n 0, 1) := by decide +kernel
theorem d_238_87 : decode (mC 238) 87 = .ok (.getfield 33, 3) := by decide +kernel
theorem d_238_90 : decode (mC 238) 90 = .ok (.aload_n 0, 1) := by decide +kernel
theorem d_238_91 : decode (mC 238) 91 = .ok (.getfield 229, 3) := by decide +kernel
theorem d_238_94 : decode (mC 238) 94 = .ok (.iaload, 1) := by decide +kernel
theorem d_238_95 : decode (mC 238) 95 = .ok (.invokevirtual 235, 3) := by decide +kernel
theorem vk_238_235 : VK 238 235 235 2 12 := ⟨⟨List.mem_of_getElem? (i := 1658) (by decide +kernel), by decide +kernel⟩, List.mem_of_getElem? (i := 1660) (by decide +kernel), mo_235, m0_235, _, rfl, List.mem_of_getElem? (i := 56) (by decide +kernel), by decide⟩
theorem d_238_98 : decode (mC 238) 98 = .ok (.goto (-98), 3) := by decide +kernel
theorem d_238_65 : decode (mC 238) 65 = .ok (.aload_n 0, 1) := by decide +kernel
theorem d_238_66 : decode (mC 238) 66 = .ok (.iconst 2, 1) := by decide +kernel
theorem d_238_67 : decode (mC 238) 67 = .ok (.iconst 0, 1) := by decide +kernel
theorem d_238_68 : decode (mC 238) 68 = .ok (.invokevirtual 235, 3) := by decide +kernel
theorem d_238_71 : decode (mC 238) 71 = .ok (.aload_n 0, 1) := by decide +kernel
theorem d_238_72 : decode (mC 238) 72 = .ok (.dup, 1) := by decide +kernel
theorem d_238_73 : decode (mC 238) 73 = .ok (.getfield 239, 3) := by decide +kernel
theorem d_238_76 : decode (mC 238) 76 = .ok (.iconst 1, 1) := by decide +kernel
theorem d_238_77 : decode (mC 238) 77 = .ok (.isub, 1) := by decide +kernel
theorem d_238_78 : decode (mC 238) 78 = .ok (.putfield 239, 3) := by decide +kernel
theorem d_238_81 : decode (mC 238) 81 = .ok (.goto (-81), 3) := by decide +kernel
theorem d_238_101 : decode (mC 238) 101 = .ok (.return_, 1) := by decide +kernel
theorem mr_238 : mR 238 = none := by decide +kernel
theorem ml_238 : mL 238 = 2 := by decide +kernel
theorem d_239_7 : decode (mC 239) 7 = .ok (.iload_n 1, 1) := by decide +kernel
theorem d_239_8 : decode (mC 239) 8 = .ok (.ifCond .lt 33, 3) := by decide +kernel
theorem d_239_11 : decode (mC 239) 11 = .ok (.aload_n 0, 1) := by decide +kernel
theorem d_239_12 : decode (mC 239) 12 = .ok (.getfield 33, 3) := by decide +kernel
theorem cn_239 : (mN 239).cls = "CordLoftModel" := by decide +kernel
theorem d_239_15 : decode (mC 239) 15 = .ok (.iload_n 1, 1) := by decide +kernel
theorem d_239_16 : decode (mC 239) 16 = .ok (.iaload, 1) := by decide +kernel
theorem d_239_17 : decode (mC 239) 17 = .ok (.bipush 20, 2) := by decide +kernel
theorem d_239_19 : decode (mC 239) 19 = .ok (.if_icmp .eq 22, 3) := by decide +kernel
theorem d_239_22 : decode (mC 239) 22 = .ok (.aload_n 0, 1) := by decide +kernel
theorem d_239_23 : decode (mC 239) 23 = .ok (.getfield 33, 3) := by decide +kernel
theorem d_239_26 : decode (mC 239) 26 = .ok (.iload_n 1, 1) := by decide +kernel
theorem d_239_27 : decode (mC 239) 27 = .ok (.iaload, 1) := by decide +kernel
theorem d_239_28 : decode (mC 239) 28 = .ok (.invokestatic 232, 3) := by decide +kernel
theorem sk_239_232 : SKc 239 232 230 1 := ⟨⟨List.mem_of_getElem? (i := 1639) (by decide +kernel), by decide +kernel⟩, List.mem_of_getElem? (i := 1640) (by decide +kernel), mo_230, m0_230⟩
theorem d_239_31 : decode (mC 239) 31 = .ok (.iconst 4, 1) := by decide +kernel
theorem d_239_32 : decode (mC 239) 32 = .ok (.if_icmp .le 9, 3) := by decide +kernel
theorem d_239_35 : decode (mC 239) 35 = .ok (.iinc 1 (-1), 3) := by decide +kernel
theorem ml_239 : mL 239 = 2 := by decide +kernel
theorem d_239_38 : decode (mC 239) 38 = .ok (.goto (-31), 3) := by decide +kernel
theorem d_239_0 : decode (mC 239) 0 = .ok (.aload_n 0, 1) := by decide +kernel
theorem d_239_1 : decode (mC 239) 1 = .ok (.getfield 229, 3) := by decide +kernel
theorem d_239_4 : decode (mC 239) 4 = .ok (.iconst 1, 1) := by decide +kernel
theorem d_239_5 : decode (mC 239) 5 = .ok (.isub, 1) := by decide +kernel
theorem d_239_6 : decode (mC 239) 6 = .ok (.istore_n 1, 1) := by decide +kernel
theorem d_239_41 : decode (mC 239) 41 = .ok (.iload_n 1, 1) := by decide +kernel
theorem d_239_42 : decode (mC 239) 42 = .ok (.ifCond .lt 31, 3) := by decide +kernel
theorem d_239_73 : decode (mC 239) 73 = .ok (.iconst 0, 1) := by decide +kernel
theorem d_239_74 : decode (mC 239) 74 = .ok (.ireturn, 1) := by decide +kernel
theorem mr_239 : mR 239 = some .boolean := by decide +kernel
theorem d_239_45 : decode (mC 239) 45 = .ok (.aload_n 0, 1) := by decide +kernel
theorem d_239_46 : decode (mC 239) 46 = .ok (.getfield 33, 3) := by decide +kernel
theorem d_239_49 : decode (mC 239) 49 = .ok (.iload_n 1, 1) := by decide +kernel
theorem d_239_50 : decode (mC 239) 50 = .ok (.iaload, 1) := by decide +kernel
theorem d_239_51 : decode (mC 239) 51 = .ok (.bipush 20, 2) := by decide +kernel
theorem d_239_53 : decode (mC 239) 53 = .ok (.if_icmp .eq 20, 3) := by decide +kernel
theorem d_239_56 : decode (mC 239) 56 = .ok (.aload_n 0, 1) := by decide +kernel
theorem d_239_57 : decode (mC 239) 57 = .ok (.getfield 33, 3) := by decide +kernel
theorem d_239_60 : decode (mC 239) 60 = .ok (.iload_n 1, 1) := by decide +kernel
theorem d_239_61 : decode (mC 239) 61 = .ok (.iaload, 1) := by decide +kernel
theorem d_239_62 : decode (mC 239) 62 = .ok (.invokestatic 232, 3) := by decide +kernel
theorem d_239_65 : decode (mC 239) 65 = .ok (.iconst 4, 1) := by decide +kernel
theorem d_239_66 : decode (mC 239) 66 = .ok (.if_icmp .ne 7, 3) := by decide +kernel
theorem d_239_69 : decode (mC 239) 69 = .ok (.iconst 1, 1) := by decide +kernel
theorem d_239_70 : decode (mC 239) 70 = .ok (.goto 4, 3) := by decide +kernel
theorem d_227_181 : decode (mC 227) 181 = .ok (.aload_n 0, 1) := by decide +kernel
theorem d_227_182 : decode (mC 227) 182 = .ok (.getfield 152, 3) := by decide +kernel
theorem cn_227 : (mN 227).cls = "CordLoftModel" := by decide +kernel
theorem d_227_185 : decode (mC 227) 185 = .ok (.ifCond .ne 8, 3) := by decide +kernel
theorem d_227_193 : decode (mC 227) 193 = .ok (.return_, 1) := by decide +kernel
theorem mr_227 : mR 227 = none := by decide +kernel
theorem d_227_188 : decode (mC 227) 188 = .ok (.aload_n 0, 1) := by decide +kernel
theorem d_227_189 : decode (mC 227) 189 = .ok (.iconst 0, 1) := by decide +kernel
theorem d_227_190 : decode (mC 227) 190 = .ok (.invokevirtual 277, 3) := by decide +kernel
theorem mo_238 : MOK 238 := ⟨List.mem_of_getElem? (i := 1673) (by decide +kernel), by decide +kernel, ⟨by decide +kernel, by decide +kernel⟩, List.mem_of_getElem? (i := 100) (by decide +kernel), by decide +kernel⟩
theorem m0_238 : M0K 238 := ⟨by decide +kernel, by decide +kernel⟩
theorem vk_227_277 : VK 227 277 238 1 12 := ⟨⟨List.mem_of_getElem? (i := 1670) (by decide +kernel), by decide +kernel⟩, List.mem_of_getElem? (i := 1672) (by decide +kernel), mo_238, m0_238, _, rfl, List.mem_of_getElem? (i := 59) (by decide +kernel), by decide⟩
theorem d_227_118 : decode (mC 227) 118 = .ok (.aload_n 0, 1) := by decide +kernel
theorem d_227_119 : decode (mC 227) 119 = .ok (.iload_n 2, 1) := by decide +kernel
theorem d_227_120 : decode (mC 227) 120 = .ok (.invokestatic 232, 3) := by decide +kernel
theorem sk_227_232 : SKc 227 232 230 1 := ⟨⟨List.mem_of_getElem? (i := 1639) (by decide +kernel), by decide +kernel⟩, List.mem_of_getElem? (i := 1640) (by decide +kernel), mo_230, m0_230⟩
theorem d_227_123 : decode (mC 227) 123 = .ok (.invokevirtual 277, 3) := by decide +kernel
theorem d_227_126 : decode (mC 227) 126 = .ok (.aload_n 0, 1) := by decide +kernel
theorem d_227_127 : decode (mC 227) 127 = .ok (.getfield 33, 3) := by decide +kernel
theorem d_227_130 : decode (mC 227) 130 = .ok (.aload_n 0, 1) := by decide +kernel
theorem d_227_131 : decode (mC 227) 131 = .ok (.getfield 229, 3) := by decide +kernel
theorem d_227_134 : decode (mC 227) 134 = .ok (.iload_n 2, 1) := by decide +kernel
theorem d_227_135 : decode (mC 227) 135 = .ok (.iastore, 1) := by decide +kernel
theorem d_227_136 : decode (mC 227) 136 = .ok (.aload_n 0, 1) := by decide +kernel
theorem d_227_137 : decode (mC 227) 137 = .ok (.dup, 1) := by decide +kernel
theorem d_227_138 : decode (mC 227) 138 = .ok (.getfield 229, 3) := by decide +kernel
theorem d_227_141 : decode (mC 227) 141 = .ok (.iconst 1, 1) := by decide +kernel
theorem d_227_142 : decode (mC 227) 142 = .ok (.iadd, 1) := by decide +kernel
theorem d_227_143 : decode (mC 227) 143 = .ok (.putfield 229, 3) := by decide +kernel
theorem d_227_146 : decode (mC 227) 146 = .ok (.aload_n 0, 1) := by decide +kernel
theorem d_227_147 : decode (mC 227) 147 = .ok (.invokevirtual 202, 3) := by decide +kernel
theorem vk_227_202 : VK 227 202 205 0 12 := ⟨⟨List.mem_of_getElem? (i := 1525) (by decide +kernel), by decide +kernel⟩, List.mem_of_getElem? (i := 1527) (by decide +kernel), mo_205, m0_205, _, rfl, List.mem_of_getElem? (i := 31) (by decide +kernel), by decide⟩
theorem d_227_150 : decode (mC 227) 150 = .ok (.aload_n 0, 1) := by decide +kernel
theorem d_227_151 : decode (mC 227) 151 = .ok (.invokevirtual 268, 3) := by decide +kernel
theorem mo_228 : MOK 228 := ⟨List.mem_of_getElem? (i := 1634) (by decide +kernel), by decide +kernel, ⟨by decide +kernel, by decide +kernel⟩, List.mem_of_getElem? (i := 100) (by decide +kernel), by decide +kernel⟩
theorem m0_228 : M0K 228 := ⟨by decide +kernel, by decide +kernel⟩
theorem vk_227_268 : VK 227 268 228 0 12 := ⟨⟨List.mem_of_getElem? (i := 1631) (by decide +kernel), by decide +kernel⟩, List.mem_of_getElem? (i := 1633) (by decide +kernel), mo_228, m0_228, _, rfl, List.mem_of_getElem? (i := 50) (by decide +kernel), by decide⟩
theorem d_227_154 : decode (mC 227) 154 = .ok (.goto 5, 3) := by decide +kernel
theorem d_227_159 : decode (mC 227) 159 = .ok (.goto (-124), 3) := by decide +kernel
theorem d_227_99 : decode (mC 227) 99 = .ok (.iload_n 2, 1) := by decide +kernel
theorem d_227_100 : decode (mC 227) 100 = .ok (.ifCond .eq 57, 3) := by decide +kernel
theorem d_227_157 : decode (mC 227) 157 = .ok (.iconst 0, 1) := by decide +kernel
theorem d_227_158 : decode (mC 227) 158 = .ok (.istore_n 1, 1) := by decide +kernel
theorem ml_227 : mL 227 = 3 := by decide +kernel
theorem d_227_103 : decode (mC 227) 103 = .ok (.iload_n 2, 1) := by decide +kernel
theorem d_227_104 : decode (mC 227) 104 = .ok (.invokestatic 232, 3) := by decide +kernel
theorem d_227_107 : decode (mC 227) 107 = .ok (.iconst 4, 1) := by decide +kernel
theorem d_227_108 : decode (mC 227) 108 = .ok (.if_icmp .ne 10, 3) := by decide +kernel
theorem d_227_111 : decode (mC 227) 111 = .ok (.aload_n 0, 1) := by decide +kernel
theorem d_227_112 : decode (mC 227) 112 = .ok (.invokevirtual 280, 3) := by decide +kernel
theorem mo_239 : MOK 239 := ⟨List.mem_of_getElem? (i := 1677) (by decide +kernel), by decide +kernel, ⟨by decide +kernel, by decide +kernel⟩, List.mem_of_getElem? (i := 100) (by decide +kernel), by decide +kernel⟩
theorem m0_239 : M0K 239 := ⟨by decide +kernel, by decide +kernel⟩
theorem vk_227_280 : VK 227 280 239 0 12 := ⟨⟨List.mem_of_getElem? (i := 1674) (by decide +kernel), by decide +kernel⟩, List.mem_of_getElem? (i := 1676) (by decide +kernel), mo_239, m0_239, _, rfl, List.mem_of_getElem? (i := 60) (by decide +kernel), by decide⟩
theorem d_227_115 : decode (mC 227) 115 = .ok (.ifCond .ne 42, 3) := by decide +kernel
theorem d_227_35 : decode (mC 227) 35 = .ok (.iload_n 1, 1) := by decide +kernel
theorem d_227_36 : decode (mC 227) 36 = .ok (.ifCond .eq 126, 3) := by decide +kernel
theorem d_227_39 : decode (mC 227) 39 = .ok (.aload_n 0, 1) := by decide +kernel
theorem d_227_40 : decode (mC 227) 40 = .ok (.getfield 152, 3) := by decide +kernel
theorem d_227_43 : decode (mC 227) 43 = .ok (.ifCond .ne 119, 3) := by decide +kernel
theorem d_227_46 : decode (mC 227) 46 = .ok (.aload_n 0, 1) := by decide +kernel
theorem d_227_47 : decode (mC 227) 47 = .ok (.invokevirtual 271, 3) := by decide +kernel
theorem mo_236 : MOK 236 := ⟨List.mem_of_getElem? (i := 1665) (by decide +kernel), by decide +kernel, ⟨by decide +kernel, by decide +kernel⟩, List.mem_of_getElem? (i := 100) (by decide +kernel), by decide +kernel⟩
theorem m0_236 : M0K 236 := ⟨by decide +kernel, by decide +kernel⟩
theorem vk_227_271 : VK 227 271 236 0 12 := ⟨⟨List.mem_of_getElem? (i := 1662) (by decide +kernel), by decide +kernel⟩, List.mem_of_getElem? (i := 1664) (by decide +kernel), mo_236, m0_236, _, rfl, List.mem_of_getElem? (i := 57) (by decide +kernel), by decide⟩
theorem d_227_50 : decode (mC 227) 50 = .ok (.istore_n 2, 1) := by decide +kernel
theorem d_227_51 : decode (mC 227) 51 = .ok (.aload_n 0, 1) := by decide +kernel
theorem d_227_52 : decode (mC 227) 52 = .ok (.getfield 139, 3) := by decide +kernel
theorem d_227_55 : decode (mC 227) 55 = .ok (.bipush 41, 2) := by decide +kernel
theorem d_227_57 : decode (mC 227) 57 = .ok (.if_icmp .ne 42, 3) := by decide +kernel
theorem d_227_60 : decode (mC 227) 60 = .ok (.aload_n 0, 1) := by decide +kernel
theorem d_227_61 : decode (mC 227) 61 = .ok (.invokevirtual 274, 3) := by decide +kernel
theorem mo_237 : MOK 237 := ⟨List.mem_of_getElem? (i := 1669) (by decide +kernel), by decide +kernel, ⟨by decide +kernel, by decide +kernel⟩, List.mem_of_getElem? (i := 100) (by decide +kernel), by decide +kernel⟩
theorem m0_237 : M0K 237 := ⟨by decide +kernel, by decide +kernel⟩
theorem vk_227_274 : VK 227 274 237 0 12 := ⟨⟨List.mem_of_getElem? (i := 1666) (by decide +kernel), by decide +kernel⟩, List.mem_of_getElem? (i := 1668) (by decide +kernel), mo_237, m0_237, _, rfl, List.mem_of_getElem? (i := 58) (by decide +kernel), by decide⟩
theorem d_227_64 : decode (mC 227) 64 = .ok (.ifCond .eq 35, 3) := by decide +kernel
theorem d_227_67 : decode (mC 227) 67 = .ok (.aload_n 0, 1) := by decide +kernel
theorem d_227_68 : decode (mC 227) 68 = .ok (.iconst 0, 1) := by decide +kernel
theorem d_227_69 : decode (mC 227) 69 = .ok (.invokevirtual 277, 3) := by decide +kernel
theorem d_227_72 : decode (mC 227) 72 = .ok (.aload_n 0, 1) := by decide +kernel
theorem d_227_73 : decode (mC 227) 73 = .ok (.dup, 1) := by decide +kernel
theorem d_227_74 : decode (mC 227) 74 = .ok (.getfield 229, 3) := by decide +kernel
theorem d_227_77 : decode (mC 227) 77 = .ok (.iconst 1, 1) := by decide +kernel
theorem d_227_78 : decode (mC 227) 78 = .ok (.isub, 1) := by decide +kernel
theorem d_227_79 : decode (mC 227) 79 = .ok (.putfield 229, 3) := by decide +kernel
theorem d_227_82 : decode (mC 227) 82 = .ok (.aload_n 0, 1) := by decide +kernel
theorem d_227_83 : decode (mC 227) 83 = .ok (.dup, 1) := by decide +kernel
theorem d_227_84 : decode (mC 227) 84 = .ok (.getfield 239, 3) := by decide +kernel
theorem d_227_87 : decode (mC 227) 87 = .ok (.iconst 1, 1) := by decide +kernel
theorem d_227_88 : decode (mC 227) 88 = .ok (.isub, 1) := by decide +kernel
theorem d_227_89 : decode (mC 227) 89 = .ok (.putfield 239, 3) := by decide +kernel
theorem d_227_92 : decode (mC 227) 92 = .ok (.aload_n 0, 1) := by decide +kernel
theorem d_227_93 : decode (mC 227) 93 = .ok (.invokevirtual 202, 3) := by decide +kernel
theorem d_227_96 : decode (mC 227) 96 = .ok (.goto 63, 3) := by decide +kernel
theorem d_227_0 : decode (mC 227) 0 = .ok (.aload_n 0, 1) := by decide +kernel
theorem d_227_1 : decode (mC 227) 1 = .ok (.invokevirtual 202, 3) := by decide +kernel
theorem d_227_4 : decode (mC 227) 4 = .ok (.aload_n 0, 1) := by decide +kernel
theorem d_227_5 : decode (mC 227) 5 = .ok (.iconst 1, 1) := by decide +kernel
theorem d_227_6 : decode (mC 227) 6 = .ok (.putfield 264, 3) := by decide +kernel
theorem fp_CordLoftModel_264 : FP 3 "CordLoftModel" 264 12 24 := ⟨⟨_, rfl, by decide, List.mem_of_getElem? (i := 1315) (by decide +kernel), rfl⟩, rfl, by decide, by decide +kernel⟩
theorem d_227_9 : decode (mC 227) 9 = .ok (.aload_n 0, 1) := by decide +kernel
theorem d_227_10 : decode (mC 227) 10 = .ok (.iconst 0, 1) := by decide +kernel
theorem d_227_11 : decode (mC 227) 11 = .ok (.putfield 226, 3) := by decide +kernel
theorem d_227_14 : decode (mC 227) 14 = .ok (.aload_n 0, 1) := by decide +kernel
theorem d_227_15 : decode (mC 227) 15 = .ok (.iconst 0, 1) := by decide +kernel
theorem d_227_16 : decode (mC 227) 16 = .ok (.putfield 229, 3) := by decide +kernel
theorem d_227_19 : decode (mC 227) 19 = .ok (.aload_n 0, 1) := by decide +kernel
theorem d_227_20 : decode (mC 227) 20 = .ok (.iconst 0, 1) := by decide +kernel
theorem d_227_21 : decode (mC 227) 21 = .ok (.putfield 239, 3) := by decide +kernel
theorem d_227_24 : decode (mC 227) 24 = .ok (.aload_n 0, 1) := by decide +kernel
theorem d_227_25 : decode (mC 227) 25 = .ok (.iconst 0, 1) := by decide +kernel
theorem d_227_26 : decode (mC 227) 26 = .ok (.putfield 245, 3) := by decide +kernel
theorem d_227_29 : decode (mC 227) 29 = .ok (.aload_n 0, 1) := by decide +kernel
theorem d_227_30 : decode (mC 227) 30 = .ok (.invokevirtual 268, 3) := by decide +kernel
theorem d_227_33 : decode (mC 227) 33 = .ok (.iconst 1, 1) := by decide +kernel
theorem d_227_34 : decode (mC 227) 34 = .ok (.istore_n 1, 1) := by decide +kernel
theorem d_227_162 : decode (mC 227) 162 = .ok (.aload_n 0, 1) := by decide +kernel
theorem d_227_163 : decode (mC 227) 163 = .ok (.getfield 152, 3) := by decide +kernel
theorem d_227_166 : decode (mC 227) 166 = .ok (.ifCond .ne 15, 3) := by decide +kernel
theorem d_227_169 : decode (mC 227) 169 = .ok (.aload_n 0, 1) := by decide +kernel
theorem d_227_170 : decode (mC 227) 170 = .ok (.invokevirtual 274, 3) := by decide +kernel
theorem d_227_173 : decode (mC 227) 173 = .ok (.ifCond .eq 8, 3) := by decide +kernel
theorem d_227_176 : decode (mC 227) 176 = .ok (.aload_n 0, 1) := by decide +kernel
theorem d_227_177 : decode (mC 227) 177 = .ok (.iconst 2, 1) := by decide +kernel
theorem d_227_178 : decode (mC 227) 178 = .ok (.invokevirtual 199, 3) := by decide +kernel
theorem vk_227_199 : VK 227 199 216 1 12 := ⟨⟨List.mem_of_getElem? (i := 1584) (by decide +kernel), by decide +kernel⟩, List.mem_of_getElem? (i := 1586) (by decide +kernel), mo_216, m0_216, _, rfl, List.mem_of_getElem? (i := 39) (by decide +kernel), by decide⟩
theorem d_210_237 : decode (mC 210) 237 = .ok (.aload_n 0, 1) := by decide +kernel
theorem d_210_238 : decode (mC 210) 238 = .ok (.getfield 152, 3) := by decide +kernel
theorem cn_210 : (mN 210).cls = "CordLoftModel" := by decide +kernel
theorem d_210_241 : decode (mC 210) 241 = .ok (.ifCond .ne 7, 3) := by decide +kernel
theorem d_210_248 : decode (mC 210) 248 = .ok (.return_, 1) := by decide +kernel
theorem mr_210 : mR 210 = none := by decide +kernel
theorem d_210_244 : decode (mC 210) 244 = .ok (.aload_n 0, 1) := by decide +kernel
theorem d_210_245 : decode (mC 210) 245 = .ok (.invokevirtual 202, 3) := by decide +kernel
theorem vk_210_202 : VK 210 202 205 0 12 := ⟨⟨List.mem_of_getElem? (i := 1525) (by decide +kernel), by decide +kernel⟩, List.mem_of_getElem? (i := 1527) (by decide +kernel), mo_205, m0_205, _, rfl, List.mem_of_getElem? (i := 31) (by decide +kernel), by decide⟩
theorem d_210_216 : decode (mC 210) 216 = .ok (.aload_n 0, 1) := by decide +kernel
theorem d_210_217 : decode (mC 210) 217 = .ok (.getfield 152, 3) := by decide +kernel
theorem d_210_220 : decode (mC 210) 220 = .ok (.ifCond .ne 17, 3) := by decide +kernel
theorem d_210_223 : decode (mC 210) 223 = .ok (.aload_n 0, 1) := by decide +kernel
theorem d_210_224 : decode (mC 210) 224 = .ok (.getfield 139, 3) := by decide +kernel
theorem d_210_227 : decode (mC 210) 227 = .ok (.bipush 59, 2) := by decide +kernel
theorem d_210_229 : decode (mC 210) 229 = .ok (.if_icmp .eq 8, 3) := by decide +kernel
theorem d_210_232 : decode (mC 210) 232 = .ok (.aload_n 0, 1) := by decide +kernel
theorem d_210_233 : decode (mC 210) 233 = .ok (.iconst 2, 1) := by decide +kernel
theorem d_210_234 : decode (mC 210) 234 = .ok (.invokevirtual 199, 3) := by decide +kernel
theorem vk_210_199 : VK 210 199 216 1 12 := ⟨⟨List.mem_of_getElem? (i := 1584) (by decide +kernel), by decide +kernel⟩, List.mem_of_getElem? (i := 1586) (by decide +kernel), mo_216, m0_216, _, rfl, List.mem_of_getElem? (i := 39) (by decide +kernel), by decide⟩
theorem d_210_211 : decode (mC 210) 211 = .ok (.aload_n 0, 1) := by decide +kernel
theorem d_210_212 : decode (mC 210) 212 = .ok (.iconst 2, 1) := by decide +kernel
theorem d_210_213 : decode (mC 210) 213 = .ok (.invokevirtual 199, 3) := by decide +kernel
theorem d_210_171 : decode (mC 210) 171 = .ok (.aload_n 0, 1) := by decide +kernel
theorem d_210_172 : decode (mC 210) 172 = .ok (.ldc2_w 175, 3) := by decide +kernel
theorem d_210_175 : decode (mC 210) 175 = .ok (.invokevirtual 195, 3) := by decide +kernel
theorem vk_210_195 : VK 210 195 211 1 12 := ⟨⟨List.mem_of_getElem? (i := 1547) (by decide +kernel), by decide +kernel⟩, List.mem_of_getElem? (i := 1549) (by decide +kernel), mo_211, m0_211, _, rfl, List.mem_of_getElem? (i := 34) (by decide +kernel), by decide⟩
theorem d_210_178 : decode (mC 210) 178 = .ok (.ifCond .eq 33, 3) := by decide +kernel
theorem d_210_181 : decode (mC 210) 181 = .ok (.aload_n 0, 1) := by decide +kernel
theorem d_210_182 : decode (mC 210) 182 = .ok (.getfield 357, 3) := by decide +kernel
theorem fk_CordLoftModel_357 : FK 3 "CordLoftModel" 357 12 49 := ⟨⟨_, rfl, by decide, List.mem_of_getElem? (i := 1340) (by decide +kernel)⟩, rfl, by decide⟩
theorem d_210_185 : decode (mC 210) 185 = .ok (.ifCond .ne 26, 3) := by decide +kernel
theorem d_210_188 : decode (mC 210) 188 = .ok (.aload_n 0, 1) := by decide +kernel
theorem d_210_189 : decode (mC 210) 189 = .ok (.iconst 1, 1) := by decide +kernel
theorem d_210_190 : decode (mC 210) 190 = .ok (.putfield 357, 3) := by decide +kernel
theorem fp_CordLoftModel_357 : FP 3 "CordLoftModel" 357 12 49 := ⟨⟨_, rfl, by decide, List.mem_of_getElem? (i := 1340) (by decide +kernel), rfl⟩, rfl, by decide, by decide +kernel⟩
theorem d_210_193 : decode (mC 210) 193 = .ok (.aload_n 0, 1) := by decide +kernel
theorem d_210_194 : decode (mC 210) 194 = .ok (.aload_n 0, 1) := by decide +kernel
theorem d_210_195 : decode (mC 210) 195 = .ok (.ldc2_w 175, 3) := by decide +kernel
theorem d_210_198 : decode (mC 210) 198 = .ok (.iconst 0, 1) := by decide +kernel
theorem d_210_199 : decode (mC 210) 199 = .ok (.sipush 999, 3) := by decide +kernel
theorem d_210_202 : decode (mC 210) 202 = .ok (.invokevirtual 213, 3) := by decide +kernel
theorem vk_210_213 : VK 210 213 219 3 12 := ⟨⟨List.mem_of_getElem? (i := 1596) (by decide +kernel), by decide +kernel⟩, List.mem_of_getElem? (i := 1598) (by decide +kernel), mo_219, m0_219, _, rfl, List.mem_of_getElem? (i := 42) (by decide +kernel), by decide⟩
theorem d_210_205 : decode (mC 210) 205 = .ok (.putfield 360, 3) := by decide +kernel
theorem fp_CordLoftModel_360 : FP 0 "CordLoftModel" 360 12 40 := ⟨⟨_, rfl, by decide, List.mem_of_getElem? (i := 1331) (by decide +kernel), rfl⟩, rfl, by decide, by decide +kernel⟩
theorem d_210_208 : decode (mC 210) 208 = .ok (.goto 8, 3) := by decide +kernel
theorem d_210_132 : decode (mC 210) 132 = .ok (.aload_n 0, 1) := by decide +kernel
theorem d_210_133 : decode (mC 210) 133 = .ok (.ldc2_w 173, 3) := by decide +kernel
theorem d_210_136 : decode (mC 210) 136 = .ok (.invokevirtual 195, 3) := by decide +kernel
theorem d_210_139 : decode (mC 210) 139 = .ok (.ifCond .eq 32, 3) := by decide +kernel
theorem d_210_142 : decode (mC 210) 142 = .ok (.aload_n 0, 1) := by decide +kernel
theorem d_210_143 : decode (mC 210) 143 = .ok (.getfield 351, 3) := by decide +kernel
theorem fk_CordLoftModel_351 : FK 3 "CordLoftModel" 351 12 48 := ⟨⟨_, rfl, by decide, List.mem_of_getElem? (i := 1339) (by decide +kernel)⟩, rfl, by decide⟩
theorem d_210_146 : decode (mC 210) 146 = .ok (.ifCond .ne 25, 3) := by decide +kernel
theorem d_210_149 : decode (mC 210) 149 = .ok (.aload_n 0, 1) := by decide +kernel
theorem d_210_150 : decode (mC 210) 150 = .ok (.iconst 1, 1) := by decide +kernel
theorem d_210_151 : decode (mC 210) 151 = .ok (.putfield 351, 3) := by decide +kernel
theorem fp_CordLoftModel_351 : FP 3 "CordLoftModel" 351 12 48 := ⟨⟨_, rfl, by decide, List.mem_of_getElem? (i := 1339) (by decide +kernel), rfl⟩, rfl, by decide, by decide +kernel⟩
theorem d_210_154 : decode (mC 210) 154 = .ok (.aload_n 0, 1) := by decide +kernel
theorem d_210_155 : decode (mC 210) 155 = .ok (.aload_n 0, 1) := by decide +kernel
theorem d_210_156 : decode (mC 210) 156 = .ok (.ldc2_w 173, 3) := by decide +kernel
theorem d_210_159 : decode (mC 210) 159 = .ok (.iconst 0, 1) := by decide +kernel
theorem d_210_160 : decode (mC 210) 160 = .ok (.bipush 100, 2) := by decide +kernel
theorem d_210_162 : decode (mC 210) 162 = .ok (.invokevirtual 213, 3) := by decide +kernel
theorem d_210_165 : decode (mC 210) 165 = .ok (.putfield 354, 3) := by decide +kernel
theorem fp_CordLoftModel_354 : FP 0 "CordLoftModel" 354 12 39 := ⟨⟨_, rfl, by decide, List.mem_of_getElem? (i := 1330) (by decide +kernel), rfl⟩, rfl, by decide, by decide +kernel⟩
theorem d_210_168 : decode (mC 210) 168 = .ok (.goto 48, 3) := by decide +kernel
theorem d_210_93 : decode (mC 210) 93 = .ok (.aload_n 0, 1) := by decide +kernel
theorem d_210_94 : decode (mC 210) 94 = .ok (.ldc2_w 171, 3) := by decide +kernel
theorem d_210_97 : decode (mC 210) 97 = .ok (.invokevirtual 195, 3) := by decide +kernel
theorem d_210_100 : decode (mC 210) 100 = .ok (.ifCond .eq 32, 3) := by decide +kernel
theorem d_210_103 : decode (mC 210) 103 = .ok (.aload_n 0, 1) := by decide +kernel
theorem d_210_104 : decode (mC 210) 104 = .ok (.getfield 345, 3) := by decide +kernel
theorem fk_CordLoftModel_345 : FK 3 "CordLoftModel" 345 12 47 := ⟨⟨_, rfl, by decide, List.mem_of_getElem? (i := 1338) (by decide +kernel)⟩, rfl, by decide⟩
theorem d_210_107 : decode (mC 210) 107 = .ok (.ifCond .ne 25, 3) := by decide +kernel
theorem d_210_110 : decode (mC 210) 110 = .ok (.aload_n 0, 1) := by decide +kernel
theorem d_210_111 : decode (mC 210) 111 = .ok (.iconst 1, 1) := by decide +kernel
theorem d_210_112 : decode (mC 210) 112 = .ok (.putfield 345, 3) := by decide +kernel
theorem fp_CordLoftModel_345 : FP 3 "CordLoftModel" 345 12 47 := ⟨⟨_, rfl, by decide, List.mem_of_getElem? (i := 1338) (by decide +kernel), rfl⟩, rfl, by decide, by decide +kernel⟩
theorem d_210_115 : decode (mC 210) 115 = .ok (.aload_n 0, 1) := by decide +kernel
theorem d_210_116 : decode (mC 210) 116 = .ok (.aload_n 0, 1) := by decide +kernel
theorem d_210_117 : decode (mC 210) 117 = .ok (.ldc2_w 171, 3) := by decide +kernel
theorem d_210_120 : decode (mC 210) 120 = .ok (.iconst 0, 1) := by decide +kernel
theorem d_210_121 : decode (mC 210) 121 = .ok (.bipush 8, 2) := by decide +kernel
theorem d_210_123 : decode (mC 210) 123 = .ok (.invokevirtual 213, 3) := by decide +kernel
theorem d_210_126 : decode (mC 210) 126 = .ok (.putfield 348, 3) := by decide +kernel
theorem fp_CordLoftModel_348 : FP 0 "CordLoftModel" 348 12 38 := ⟨⟨_, rfl, by decide, List.mem_of_getElem? (i := 1329) (by decide +kernel), rfl⟩, rfl, by decide, by decide +kernel⟩
theorem d_210_129 : decode (mC 210) 129 = .ok (.goto 87, 3) := by decide +kernel
theorem d_210_52 : decode (mC 210) 52 = .ok (.aload_n 0, 1) := by decide +kernel
theorem d_210_53 : decode (mC 210) 53 = .ok (.ldc2_w 167, 3) := by decide +kernel
theorem d_210_56 : decode (mC 210) 56 = .ok (.invokevirtual 195, 3) := by decide +kernel
theorem d_210_59 : decode (mC 210) 59 = .ok (.ifCond .eq 10, 3) := by decide +kernel
theorem d_210_69 : decode (mC 210) 69 = .ok (.aload_n 0, 1) := by decide +kernel
theorem d_210_70 : decode (mC 210) 70 = .ok (.ldc2_w 169, 3) := by decide +kernel
theorem d_210_73 : decode (mC 210) 73 = .ok (.invokevirtual 195, 3) := by decide +kernel
theorem d_210_76 : decode (mC 210) 76 = .ok (.ifCond .eq 17, 3) := by decide +kernel
theorem d_210_79 : decode (mC 210) 79 = .ok (.aload_n 0, 1) := by decide +kernel
theorem d_210_80 : decode (mC 210) 80 = .ok (.getfield 264, 3) := by decide +kernel
theorem fk_CordLoftModel_264 : FK 3 "CordLoftModel" 264 12 24 := ⟨⟨_, rfl, by decide, List.mem_of_getElem? (i := 1315) (by decide +kernel)⟩, rfl, by decide⟩
theorem d_210_83 : decode (mC 210) 83 = .ok (.ifCond .ne 10, 3) := by decide +kernel
theorem d_210_86 : decode (mC 210) 86 = .ok (.aload_n 0, 1) := by decide +kernel
theorem d_210_87 : decode (mC 210) 87 = .ok (.invokevirtual 342, 3) := by decide +kernel
theorem mo_227 : MOK 227 := ⟨List.mem_of_getElem? (i := 1630) (by decide +kernel), by decide +kernel, ⟨by decide +kernel, by decide +kernel⟩, List.mem_of_getElem? (i := 100) (by decide +kernel), by decide +kernel⟩
theorem m0_227 : M0K 227 := ⟨by decide +kernel, by decide +kernel⟩
theorem vk_210_342 : VK 210 342 227 0 12 := ⟨⟨List.mem_of_getElem? (i := 1627) (by decide +kernel), by decide +kernel⟩, List.mem_of_getElem? (i := 1629) (by decide +kernel), mo_227, m0_227, _, rfl, List.mem_of_getElem? (i := 49) (by decide +kernel), by decide⟩
theorem d_210_90 : decode (mC 210) 90 = .ok (.goto 126, 3) := by decide +kernel
theorem d_210_62 : decode (mC 210) 62 = .ok (.aload_n 0, 1) := by decide +kernel
theorem d_210_63 : decode (mC 210) 63 = .ok (.invokevirtual 339, 3) := by decide +kernel
theorem mo_226 : MOK 226 := ⟨List.mem_of_getElem? (i := 1626) (by decide +kernel), by decide +kernel, ⟨by decide +kernel, by decide +kernel⟩, List.mem_of_getElem? (i := 100) (by decide +kernel), by decide +kernel⟩
theorem m0_226 : M0K 226 := ⟨by decide +kernel, by decide +kernel⟩
theorem vk_210_339 : VK 210 339 226 0 12 := ⟨⟨List.mem_of_getElem? (i := 1623) (by decide +kernel), by decide +kernel⟩, List.mem_of_getElem? (i := 1625) (by decide +kernel), mo_226, m0_226, _, rfl, List.mem_of_getElem? (i := 48) (by decide +kernel), by decide⟩
theorem d_210_66 : decode (mC 210) 66 = .ok (.goto 150, 3) := by decide +kernel
theorem d_210_26 : decode (mC 210) 26 = .ok (.aload_n 0, 1) := by decide +kernel
theorem d_210_27 : decode (mC 210) 27 = .ok (.ldc2_w 161, 3) := by decide +kernel
theorem d_210_30 : decode (mC 210) 30 = .ok (.invokevirtual 195, 3) := by decide +kernel
theorem d_210_33 : decode (mC 210) 33 = .ok (.ifCond .eq 19, 3) := by decide +kernel
theorem d_210_36 : decode (mC 210) 36 = .ok (.aload_n 0, 1) := by decide +kernel
theorem d_210_37 : decode (mC 210) 37 = .ok (.getfield 323, 3) := by decide +kernel
theorem d_210_40 : decode (mC 210) 40 = .ok (.bipush 8, 2) := by decide +kernel
theorem d_210_42 : decode (mC 210) 42 = .ok (.if_icmp .ge 10, 3) := by decide +kernel
theorem d_210_45 : decode (mC 210) 45 = .ok (.aload_n 0, 1) := by decide +kernel
theorem d_210_46 : decode (mC 210) 46 = .ok (.invokevirtual 336, 3) := by decide +kernel
theorem mo_222 : MOK 222 := ⟨List.mem_of_getElem? (i := 1611) (by decide +kernel), by decide +kernel, ⟨by decide +kernel, by decide +kernel⟩, List.mem_of_getElem? (i := 100) (by decide +kernel), by decide +kernel⟩
theorem m0_222 : M0K 222 := ⟨by decide +kernel, by decide +kernel⟩
theorem vk_210_336 : VK 210 336 222 0 12 := ⟨⟨List.mem_of_getElem? (i := 1608) (by decide +kernel), by decide +kernel⟩, List.mem_of_getElem? (i := 1610) (by decide +kernel), mo_222, m0_222, _, rfl, List.mem_of_getElem? (i := 45) (by decide +kernel), by decide⟩
theorem d_210_49 : decode (mC 210) 49 = .ok (.goto 167, 3) := by decide +kernel
theorem d_210_0 : decode (mC 210) 0 = .ok (.aload_n 0, 1) := by decide +kernel
theorem d_210_1 : decode (mC 210) 1 = .ok (.ldc2_w 155, 3) := by decide +kernel
theorem d_210_4 : decode (mC 210) 4 = .ok (.invokevirtual 195, 3) := by decide +kernel
theorem d_210_7 : decode (mC 210) 7 = .ok (.ifCond .eq 19, 3) := by decide +kernel
theorem d_210_10 : decode (mC 210) 10 = .ok (.aload_n 0, 1) := by decide +kernel
theorem d_210_11 : decode (mC 210) 11 = .ok (.getfield 223, 3) := by decide +kernel
theorem d_210_14 : decode (mC 210) 14 = .ok (.bipush 8, 2) := by decide +kernel
theorem d_210_16 : decode (mC 210) 16 = .ok (.if_icmp .ge 10, 3) := by decide +kernel
theorem d_210_19 : decode (mC 210) 19 = .ok (.aload_n 0, 1) := by decide +kernel
theorem d_210_20 : decode (mC 210) 20 = .ok (.invokevirtual 333, 3) := by decide +kernel
theorem mo_212 : MOK 212 := ⟨List.mem_of_getElem? (i := 1554) (by decide +kernel), by decide +kernel, ⟨by decide +kernel, by decide +kernel⟩, List.mem_of_getElem? (i := 100) (by decide +kernel), by decide +kernel⟩
theorem m0_212 : M0K 212 := ⟨by decide +kernel, by decide +kernel⟩
theorem vk_210_333 : VK 210 333 212 0 12 := ⟨⟨List.mem_of_getElem? (i := 1551) (by decide +kernel), by decide +kernel⟩, List.mem_of_getElem? (i := 1553) (by decide +kernel), mo_212, m0_212, _, rfl, List.mem_of_getElem? (i := 35) (by decide +kernel), by decide⟩
theorem d_210_23 : decode (mC 210) 23 = .ok (.goto 193, 3) := by decide +kernel
theorem ml_210 : mL 210 = 1 := by decide +kernel
theorem d_204_87 : decode (mC 204) 87 = .ok (.aload_n 0, 1) := by decide +kernel
theorem d_204_88 : decode (mC 204) 88 = .ok (.getfield 152, 3) := by decide +kernel
theorem cn_204 : (mN 204).cls = "CordLoftModel" := by decide +kernel
theorem d_204_91 : decode (mC 204) 91 = .ok (.ifCond .ne 17, 3) := by decide +kernel
theorem d_204_94 : decode (mC 204) 94 = .ok (.aload_n 0, 1) := by decide +kernel
theorem d_204_95 : decode (mC 204) 95 = .ok (.getfield 139, 3) := by decide +kernel
theorem d_204_98 : decode (mC 204) 98 = .ok (.ifCond .eq 10, 3) := by decide +kernel
theorem d_204_101 : decode (mC 204) 101 = .ok (.aload_n 0, 1) := by decide +kernel
theorem d_204_102 : decode (mC 204) 102 = .ok (.invokevirtual 363, 3) := by decide +kernel
theorem mo_210 : MOK 210 := ⟨List.mem_of_getElem? (i := 1545) (by decide +kernel), by decide +kernel, ⟨by decide +kernel, by decide +kernel⟩, List.mem_of_getElem? (i := 100) (by decide +kernel), by decide +kernel⟩
theorem m0_210 : M0K 210 := ⟨by decide +kernel, by decide +kernel⟩
theorem vk_204_363 : VK 204 363 210 0 12 := ⟨⟨List.mem_of_getElem? (i := 1542) (by decide +kernel), by decide +kernel⟩, List.mem_of_getElem? (i := 1544) (by decide +kernel), mo_210, m0_210, _, rfl, List.mem_of_getElem? (i := 33) (by decide +kernel), by decide⟩
theorem d_204_105 : decode (mC 204) 105 = .ok (.goto (-18), 3) := by decide +kernel
theorem d_204_0 : decode (mC 204) 0 = .ok (.aload_n 0, 1) := by decide +kernel
theorem d_204_1 : decode (mC 204) 1 = .ok (.aload_n 0, 1) := by decide +kernel
theorem d_204_2 : decode (mC 204) 2 = .ok (.getfield 112, 3) := by decide +kernel
theorem d_204_5 : decode (mC 204) 5 = .ok (.putfield 122, 3) := by decide +kernel
theorem fp_CordLoftModel_122 : FP 0 "CordLoftModel" 122 12 5 := ⟨⟨_, rfl, by decide, List.mem_of_getElem? (i := 1296) (by decide +kernel), rfl⟩, rfl, by decide, by decide +kernel⟩
theorem d_204_8 : decode (mC 204) 8 = .ok (.aload_n 0, 1) := by decide +kernel
theorem d_204_9 : decode (mC 204) 9 = .ok (.iconst 0, 1) := by decide +kernel
theorem d_204_10 : decode (mC 204) 10 = .ok (.putfield 112, 3) := by decide +kernel
theorem d_204_13 : decode (mC 204) 13 = .ok (.aload_n 0, 1) := by decide +kernel
theorem d_204_14 : decode (mC 204) 14 = .ok (.iconst 0, 1) := by decide +kernel
theorem d_204_15 : decode (mC 204) 15 = .ok (.putfield 119, 3) := by decide +kernel
theorem d_204_18 : decode (mC 204) 18 = .ok (.aload_n 0, 1) := by decide +kernel
theorem d_204_19 : decode (mC 204) 19 = .ok (.iconst 0, 1) := by decide +kernel
theorem d_204_20 : decode (mC 204) 20 = .ok (.putfield 152, 3) := by decide +kernel
theorem d_204_23 : decode (mC 204) 23 = .ok (.aload_n 0, 1) := by decide +kernel
theorem d_204_24 : decode (mC 204) 24 = .ok (.iconst (-1), 1) := by decide +kernel
theorem d_204_25 : decode (mC 204) 25 = .ok (.putfield 13, 3) := by decide +kernel
theorem d_204_28 : decode (mC 204) 28 = .ok (.aload_n 0, 1) := by decide +kernel
theorem d_204_29 : decode (mC 204) 29 = .ok (.iconst 0, 1) := by decide +kernel
theorem d_204_30 : decode (mC 204) 30 = .ok (.putfield 223, 3) := by decide +kernel
theorem d_204_33 : decode (mC 204) 33 = .ok (.aload_n 0, 1) := by decide +kernel
theorem d_204_34 : decode (mC 204) 34 = .ok (.iconst 0, 1) := by decide +kernel
theorem d_204_35 : decode (mC 204) 35 = .ok (.putfield 323, 3) := by decide +kernel
theorem d_204_38 : decode (mC 204) 38 = .ok (.aload_n 0, 1) := by decide +kernel
theorem d_204_39 : decode (mC 204) 39 = .ok (.iconst 0, 1) := by decide +kernel
theorem d_204_40 : decode (mC 204) 40 = .ok (.putfield 313, 3) := by decide +kernel
theorem d_204_43 : decode (mC 204) 43 = .ok (.aload_n 0, 1) := by decide +kernel
theorem d_204_44 : decode (mC 204) 44 = .ok (.iconst 0, 1) := by decide +kernel
theorem d_204_45 : decode (mC 204) 45 = .ok (.putfield 348, 3) := by decide +kernel
theorem d_204_48 : decode (mC 204) 48 = .ok (.aload_n 0, 1) := by decide +kernel
theorem d_204_49 : decode (mC 204) 49 = .ok (.iconst 0, 1) := by decide +kernel
theorem d_204_50 : decode (mC 204) 50 = .ok (.putfield 354, 3) := by decide +kernel
theorem d_204_53 : decode (mC 204) 53 = .ok (.aload_n 0, 1) := by decide +kernel
theorem d_204_54 : decode (mC 204) 54 = .ok (.iconst 0, 1) := by decide +kernel
theorem d_204_55 : decode (mC 204) 55 = .ok (.putfield 360, 3) := by decide +kernel
theorem d_204_58 : decode (mC 204) 58 = .ok (.aload_n 0, 1) := by decide +kernel
theorem d_204_59 : decode (mC 204) 59 = .ok (.iconst 0, 1) := by decide +kernel
theorem d_204_60 : decode (mC 204) 60 = .ok (.putfield 345, 3) := by decide +kernel
theorem d_204_63 : decode (mC 204) 63 = .ok (.aload_n 0, 1) := by decide +kernel
theorem d_204_64 : decode (mC 204) 64 = .ok (.iconst 0, 1) := by decide +kernel
theorem d_204_65 : decode (mC 204) 65 = .ok (.putfield 351, 3) := by decide +kernel
theorem d_204_68 : decode (mC 204) 68 = .ok (.aload_n 0, 1) := by decide +kernel
theorem d_204_69 : decode (mC 204) 69 = .ok (.iconst 0, 1) := by decide +kernel
theorem d_204_70 : decode (mC 204) 70 = .ok (.putfield 357, 3) := by decide +kernel
theorem d_204_73 : decode (mC 204) 73 = .ok (.aload_n 0, 1) := by decide +kernel
theorem d_204_74 : decode (mC 204) 74 = .ok (.iconst 0, 1) := by decide +kernel
theorem d_204_75 : decode (mC 204) 75 = .ok (.putfield 264, 3) := by decide +kernel
theorem d_204_78 : decode (mC 204) 78 = .ok (.aload_n 0, 1) := by decide +kernel
theorem d_204_79 : decode (mC 204) 79 = .ok (.iconst 0, 1) := by decide +kernel
theorem d_204_80 : decode (mC 204) 80 = .ok (.putfield 242, 3) := by decide +kernel
theorem d_204_83 : decode (mC 204) 83 = .ok (.aload_n 0, 1) := by decide +kernel
theorem d_204_84 : decode (mC 204) 84 = .ok (.invokevirtual 202, 3) := by decide +kernel
theorem vk_204_202 : VK 204 202 205 0 12 := ⟨⟨List.mem_of_getElem? (i := 1525) (by decide +kernel), by decide +kernel⟩, List.mem_of_getElem? (i := 1527) (by decide +kernel), mo_205, m0_205, _, rfl, List.mem_of_getElem? (i := 31) (by decide +kernel), by decide⟩
theorem d_204_108 : decode (mC 204) 108 = .ok (.return_, 1) := by decide +kernel
theorem mr_204 : mR 204 = none := by decide +kernel
theorem ml_204 : mL 204 = 1 := by decide +kernel
theorem d_203_278 : decode (mC 203) 278 = .ok (.iload_n 1, 1) := by decide +kernel
theorem d_203_279 : decode (mC 203) 279 = .ok (.iconst 3, 1) := by decide +kernel
theorem d_203_280 : decode (mC 203) 280 = .ok (.if_icmp .ge 16, 3) := by decide +kernel
theorem d_203_283 : decode (mC 203) 283 = .ok (.aload_n 0, 1) := by decide +kernel
theorem d_203_284 : decode (mC 203) 284 = .ok (.getfield 106, 3) := by decide +kernel
theorem fk_CordLoftModel_106 : FK 2 "CordLoftModel" 106 12 69 := ⟨⟨_, rfl, by decide, List.mem_of_getElem? (i := 1360) (by decide +kernel)⟩, rfl, by decide⟩
theorem cn_203 : (mN 203).cls = "CordLoftModel" := by decide +kernel
theorem ft_13_69 : finT 13 69 = some (136, 0) := by decide +kernel
theorem k_136 : kd0 136 = 23 := by decide +kernel
theorem l_136 : ln0 136 = 3 := by decide +kernel
theorem d_203_287 : decode (mC 203) 287 = .ok (.iload_n 1, 1) := by decide +kernel
theorem d_203_288 : decode (mC 203) 288 = .ok (.iconst 0, 1) := by decide +kernel
theorem d_203_289 : decode (mC 203) 289 = .ok (.bastore, 1) := by decide +kernel
theorem d_203_290 : decode (mC 203) 290 = .ok (.iinc 1 1, 3) := by decide +kernel
theorem ml_203 : mL 203 = 2 := by decide +kernel
theorem d_203_293 : decode (mC 203) 293 = .ok (.goto (-15), 3) := by decide +kernel
theorem d_203_218 : decode (mC 203) 218 = .ok (.iload_n 1, 1) := by decide +kernel
theorem d_203_219 : decode (mC 203) 219 = .ok (.iconst 5, 1) := by decide +kernel
theorem d_203_220 : decode (mC 203) 220 = .ok (.if_icmp .ge 16, 3) := by decide +kernel
theorem d_203_223 : decode (mC 203) 223 = .ok (.aload_n 0, 1) := by decide +kernel
theorem d_203_224 : decode (mC 203) 224 = .ok (.getfield 66, 3) := by decide +kernel
theorem fk_CordLoftModel_66 : FK 2 "CordLoftModel" 66 12 50 := ⟨⟨_, rfl, by decide, List.mem_of_getElem? (i := 1341) (by decide +kernel)⟩, rfl, by decide⟩
theorem ft_13_50 : finT 13 50 = some (123, 0) := by decide +kernel
theorem k_123 : kd0 123 = 20 := by decide +kernel
theorem l_123 : ln0 123 = 5 := by decide +kernel
theorem d_203_227 : decode (mC 203) 227 = .ok (.iload_n 1, 1) := by decide +kernel
theorem d_203_228 : decode (mC 203) 228 = .ok (.iconst 0, 1) := by decide +kernel
theorem d_203_229 : decode (mC 203) 229 = .ok (.iastore, 1) := by decide +kernel
theorem d_203_230 : decode (mC 203) 230 = .ok (.iinc 1 1, 3) := by decide +kernel
theorem d_203_233 : decode (mC 203) 233 = .ok (.goto (-15), 3) := by decide +kernel
theorem d_203_178 : decode (mC 203) 178 = .ok (.iload_n 1, 1) := by decide +kernel
theorem d_203_179 : decode (mC 203) 179 = .ok (.aload_n 0, 1) := by decide +kernel
theorem d_203_180 : decode (mC 203) 180 = .ok (.getfield 369, 3) := by decide +kernel
theorem fk_CordLoftModel_369 : FK 0 "CordLoftModel" 369 12 42 := ⟨⟨_, rfl, by decide, List.mem_of_getElem? (i := 1333) (by decide +kernel)⟩, rfl, by decide⟩
theorem d_203_183 : decode (mC 203) 183 = .ok (.if_icmp .ge 33, 3) := by decide +kernel
theorem d_203_186 : decode (mC 203) 186 = .ok (.aload_n 0, 1) := by decide +kernel
theorem d_203_187 : decode (mC 203) 187 = .ok (.getfield 60, 3) := by decide +kernel
theorem fk_CordLoftModel_60 : FK 2 "CordLoftModel" 60 12 33 := ⟨⟨_, rfl, by decide, List.mem_of_getElem? (i := 1324) (by decide +kernel)⟩, rfl, by decide⟩
theorem ft_13_33 : finT 13 33 = some (121, 0) := by decide +kernel
theorem k_121 : kd0 121 = 20 := by decide +kernel
theorem l_121 : ln0 121 = 8 := by decide +kernel
theorem d_203_190 : decode (mC 203) 190 = .ok (.iload_n 1, 1) := by decide +kernel
theorem d_203_191 : decode (mC 203) 191 = .ok (.aload_n 0, 1) := by decide +kernel
theorem d_203_192 : decode (mC 203) 192 = .ok (.getfield 48, 3) := by decide +kernel
theorem d_203_195 : decode (mC 203) 195 = .ok (.iload_n 1, 1) := by decide +kernel
theorem d_203_196 : decode (mC 203) 196 = .ok (.iaload, 1) := by decide +kernel
theorem d_203_197 : decode (mC 203) 197 = .ok (.iastore, 1) := by decide +kernel
theorem d_203_198 : decode (mC 203) 198 = .ok (.aload_n 0, 1) := by decide +kernel
theorem d_203_199 : decode (mC 203) 199 = .ok (.getfield 63, 3) := by decide +kernel
theorem fk_CordLoftModel_63 : FK 2 "CordLoftModel" 63 12 34 := ⟨⟨_, rfl, by decide, List.mem_of_getElem? (i := 1325) (by decide +kernel)⟩, rfl, by decide⟩
theorem ft_13_34 : finT 13 34 = some (122, 0) := by decide +kernel
theorem k_122 : kd0 122 = 20 := by decide +kernel
theorem l_122 : ln0 122 = 8 := by decide +kernel
theorem d_203_202 : decode (mC 203) 202 = .ok (.iload_n 1, 1) := by decide +kernel
theorem d_203_203 : decode (mC 203) 203 = .ok (.aload_n 0, 1) := by decide +kernel
theorem d_203_204 : decode (mC 203) 204 = .ok (.getfield 51, 3) := by decide +kernel
theorem d_203_207 : decode (mC 203) 207 = .ok (.iload_n 1, 1) := by decide +kernel
theorem d_203_208 : decode (mC 203) 208 = .ok (.iaload, 1) := by decide +kernel
theorem d_203_209 : decode (mC 203) 209 = .ok (.iastore, 1) := by decide +kernel
theorem d_203_210 : decode (mC 203) 210 = .ok (.iinc 1 1, 3) := by decide +kernel
theorem d_203_213 : decode (mC 203) 213 = .ok (.goto (-35), 3) := by decide +kernel
theorem d_203_138 : decode (mC 203) 138 = .ok (.iload_n 1, 1) := by decide +kernel
theorem d_203_139 : decode (mC 203) 139 = .ok (.aload_n 0, 1) := by decide +kernel
theorem d_203_140 : decode (mC 203) 140 = .ok (.getfield 303, 3) := by decide +kernel
theorem fk_CordLoftModel_303 : FK 0 "CordLoftModel" 303 12 41 := ⟨⟨_, rfl, by decide, List.mem_of_getElem? (i := 1332) (by decide +kernel)⟩, rfl, by decide⟩
theorem d_203_143 : decode (mC 203) 143 = .ok (.if_icmp .ge 33, 3) := by decide +kernel
theorem d_203_146 : decode (mC 203) 146 = .ok (.aload_n 0, 1) := by decide +kernel
theorem d_203_147 : decode (mC 203) 147 = .ok (.getfield 54, 3) := by decide +kernel
theorem fk_CordLoftModel_54 : FK 2 "CordLoftModel" 54 12 31 := ⟨⟨_, rfl, by decide, List.mem_of_getElem? (i := 1322) (by decide +kernel)⟩, rfl, by decide⟩
theorem ft_13_31 : finT 13 31 = some (119, 0) := by decide +kernel
theorem k_119 : kd0 119 = 20 := by decide +kernel
theorem l_119 : ln0 119 = 8 := by decide +kernel
theorem d_203_150 : decode (mC 203) 150 = .ok (.iload_n 1, 1) := by decide +kernel
theorem d_203_151 : decode (mC 203) 151 = .ok (.aload_n 0, 1) := by decide +kernel
theorem d_203_152 : decode (mC 203) 152 = .ok (.getfield 42, 3) := by decide +kernel
theorem d_203_155 : decode (mC 203) 155 = .ok (.iload_n 1, 1) := by decide +kernel
theorem d_203_156 : decode (mC 203) 156 = .ok (.iaload, 1) := by decide +kernel
theorem d_203_157 : decode (mC 203) 157 = .ok (.iastore, 1) := by decide +kernel
theorem d_203_158 : decode (mC 203) 158 = .ok (.aload_n 0, 1) := by decide +kernel
theorem d_203_159 : decode (mC 203) 159 = .ok (.getfield 57, 3) := by decide +kernel
theorem fk_CordLoftModel_57 : FK 2 "CordLoftModel" 57 12 32 := ⟨⟨_, rfl, by decide, List.mem_of_getElem? (i := 1323) (by decide +kernel)⟩, rfl, by decide⟩
theorem ft_13_32 : finT 13 32 = some (120, 0) := by decide +kernel
theorem k_120 : kd0 120 = 20 := by decide +kernel
theorem l_120 : ln0 120 = 8 := by decide +kernel
theorem d_203_162 : decode (mC 203) 162 = .ok (.iload_n 1, 1) := by decide +kernel
theorem d_203_163 : decode (mC 203) 163 = .ok (.aload_n 0, 1) := by decide +kernel
theorem d_203_164 : decode (mC 203) 164 = .ok (.getfield 45, 3) := by decide +kernel
theorem d_203_167 : decode (mC 203) 167 = .ok (.iload_n 1, 1) := by decide +kernel
theorem d_203_168 : decode (mC 203) 168 = .ok (.iaload, 1) := by decide +kernel
theorem d_203_169 : decode (mC 203) 169 = .ok (.iastore, 1) := by decide +kernel
theorem d_203_170 : decode (mC 203) 170 = .ok (.iinc 1 1, 3) := by decide +kernel
theorem d_203_173 : decode (mC 203) 173 = .ok (.goto (-35), 3) := by decide +kernel
theorem d_203_98 : decode (mC 203) 98 = .ok (.iload_n 1, 1) := by decide +kernel
theorem d_203_99 : decode (mC 203) 99 = .ok (.aload_n 0, 1) := by decide +kernel
theorem d_203_100 : decode (mC 203) 100 = .ok (.getfield 296, 3) := by decide +kernel
theorem fk_CordLoftModel_296 : FK 0 "CordLoftModel" 296 12 18 := ⟨⟨_, rfl, by decide, List.mem_of_getElem? (i := 1309) (by decide +kernel)⟩, rfl, by decide⟩
theorem d_203_103 : decode (mC 203) 103 = .ok (.if_icmp .ge 33, 3) := by decide +kernel
theorem d_203_106 : decode (mC 203) 106 = .ok (.aload_n 0, 1) := by decide +kernel
theorem d_203_107 : decode (mC 203) 107 = .ok (.getfield 27, 3) := by decide +kernel
theorem fk_CordLoftModel_27 : FK 2 "CordLoftModel" 27 12 13 := ⟨⟨_, rfl, by decide, List.mem_of_getElem? (i := 1304) (by decide +kernel)⟩, rfl, by decide⟩
theorem ft_13_13 : finT 13 13 = some (110, 0) := by decide +kernel
theorem k_110 : kd0 110 = 20 := by decide +kernel
theorem l_110 : ln0 110 = 320 := by decide +kernel
theorem d_203_110 : decode (mC 203) 110 = .ok (.iload_n 1, 1) := by decide +kernel
theorem d_203_111 : decode (mC 203) 111 = .ok (.aload_n 0, 1) := by decide +kernel
theorem d_203_112 : decode (mC 203) 112 = .ok (.getfield 21, 3) := by decide +kernel
theorem d_203_115 : decode (mC 203) 115 = .ok (.iload_n 1, 1) := by decide +kernel
theorem d_203_116 : decode (mC 203) 116 = .ok (.iaload, 1) := by decide +kernel
theorem d_203_117 : decode (mC 203) 117 = .ok (.iastore, 1) := by decide +kernel
theorem d_203_118 : decode (mC 203) 118 = .ok (.aload_n 0, 1) := by decide +kernel
theorem d_203_119 : decode (mC 203) 119 = .ok (.getfield 30, 3) := by decide +kernel
theorem fk_CordLoftModel_30 : FK 2 "CordLoftModel" 30 12 14 := ⟨⟨_, rfl, by decide, List.mem_of_getElem? (i := 1305) (by decide +kernel)⟩, rfl, by decide⟩
theorem ft_13_14 : finT 13 14 = some (111, 0) := by decide +kernel
theorem k_111 : kd0 111 = 20 := by decide +kernel
theorem l_111 : ln0 111 = 320 := by decide +kernel
theorem d_203_122 : decode (mC 203) 122 = .ok (.iload_n 1, 1) := by decide +kernel
theorem d_203_123 : decode (mC 203) 123 = .ok (.aload_n 0, 1) := by decide +kernel
theorem d_203_124 : decode (mC 203) 124 = .ok (.getfield 24, 3) := by decide +kernel
theorem d_203_127 : decode (mC 203) 127 = .ok (.iload_n 1, 1) := by decide +kernel
theorem d_203_128 : decode (mC 203) 128 = .ok (.iaload, 1) := by decide +kernel
theorem d_203_129 : decode (mC 203) 129 = .ok (.iastore, 1) := by decide +kernel
theorem d_203_130 : decode (mC 203) 130 = .ok (.iinc 1 1, 3) := by decide +kernel
theorem d_203_133 : decode (mC 203) 133 = .ok (.goto (-35), 3) := by decide +kernel
theorem d_203_93 : decode (mC 203) 93 = .ok (.putfield 296, 3) := by decide +kernel
theorem fp_CordLoftModel_296 : FP 0 "CordLoftModel" 296 12 18 := ⟨⟨_, rfl, by decide, List.mem_of_getElem? (i := 1309) (by decide +kernel), rfl⟩, rfl, by decide, by decide +kernel⟩
theorem d_203_96 : decode (mC 203) 96 = .ok (.iconst 0, 1) := by decide +kernel
theorem d_203_97 : decode (mC 203) 97 = .ok (.istore_n 1, 1) := by decide +kernel
theorem d_203_136 : decode (mC 203) 136 = .ok (.iconst 0, 1) := by decide +kernel
theorem d_203_137 : decode (mC 203) 137 = .ok (.istore_n 1, 1) := by decide +kernel
theorem d_203_176 : decode (mC 203) 176 = .ok (.iconst 0, 1) := by decide +kernel
theorem d_203_177 : decode (mC 203) 177 = .ok (.istore_n 1, 1) := by decide +kernel
theorem d_203_216 : decode (mC 203) 216 = .ok (.iconst 0, 1) := by decide +kernel
theorem d_203_217 : decode (mC 203) 217 = .ok (.istore_n 1, 1) := by decide +kernel
theorem d_203_236 : decode (mC 203) 236 = .ok (.aload_n 0, 1) := by decide +kernel
theorem d_203_237 : decode (mC 203) 237 = .ok (.getfield 66, 3) := by decide +kernel
theorem d_203_240 : decode (mC 203) 240 = .ok (.iconst 0, 1) := by decide +kernel
theorem d_203_241 : decode (mC 203) 241 = .ok (.aload_n 0, 1) := by decide +kernel
theorem d_203_242 : decode (mC 203) 242 = .ok (.getfield 372, 3) := by decide +kernel
theorem fk_CordLoftModel_372 : FK 0 "CordLoftModel" 372 12 43 := ⟨⟨_, rfl, by decide, List.mem_of_getElem? (i := 1334) (by decide +kernel)⟩, rfl, by decide⟩
theorem d_203_245 : decode (mC 203) 245 = .ok (.iastore, 1) := by decide +kernel
theorem d_203_246 : decode (mC 203) 246 = .ok (.aload_n 0, 1) := by decide +kernel
theorem d_203_247 : decode (mC 203) 247 = .ok (.getfield 66, 3) := by decide +kernel
theorem d_203_250 : decode (mC 203) 250 = .ok (.iconst 4, 1) := by decide +kernel
theorem d_203_251 : decode (mC 203) 251 = .ok (.aload_n 0, 1) := by decide +kernel
theorem d_203_252 : decode (mC 203) 252 = .ok (.getfield 381, 3) := by decide +kernel
theorem fk_CordLoftModel_381 : FK 0 "CordLoftModel" 381 12 46 := ⟨⟨_, rfl, by decide, List.mem_of_getElem? (i := 1337) (by decide +kernel)⟩, rfl, by decide⟩
theorem d_203_255 : decode (mC 203) 255 = .ok (.iastore, 1) := by decide +kernel
theorem d_203_256 : decode (mC 203) 256 = .ok (.aload_n 0, 1) := by decide +kernel
theorem d_203_257 : decode (mC 203) 257 = .ok (.iconst 0, 1) := by decide +kernel
theorem d_203_258 : decode (mC 203) 258 = .ok (.putfield 387, 3) := by decide +kernel
theorem fp_CordLoftModel_387 : FP 0 "CordLoftModel" 387 12 52 := ⟨⟨_, rfl, by decide, List.mem_of_getElem? (i := 1343) (by decide +kernel), rfl⟩, rfl, by decide, by decide +kernel⟩
theorem d_203_261 : decode (mC 203) 261 = .ok (.aload_n 0, 1) := by decide +kernel
theorem d_203_262 : decode (mC 203) 262 = .ok (.iconst 0, 1) := by decide +kernel
theorem d_203_263 : decode (mC 203) 263 = .ok (.putfield 390, 3) := by decide +kernel
theorem fp_CordLoftModel_390 : FP 0 "CordLoftModel" 390 12 53 := ⟨⟨_, rfl, by decide, List.mem_of_getElem? (i := 1344) (by decide +kernel), rfl⟩, rfl, by decide, by decide +kernel⟩
theorem d_203_266 : decode (mC 203) 266 = .ok (.aload_n 0, 1) := by decide +kernel
theorem d_203_267 : decode (mC 203) 267 = .ok (.iconst 0, 1) := by decide +kernel
theorem d_203_268 : decode (mC 203) 268 = .ok (.putfield 393, 3) := by decide +kernel
theorem fp_CordLoftModel_393 : FP 0 "CordLoftModel" 393 12 67 := ⟨⟨_, rfl, by decide, List.mem_of_getElem? (i := 1358) (by decide +kernel), rfl⟩, rfl, by decide, by decide +kernel⟩
theorem d_203_271 : decode (mC 203) 271 = .ok (.aload_n 0, 1) := by decide +kernel
theorem d_203_272 : decode (mC 203) 272 = .ok (.iconst 0, 1) := by decide +kernel
theorem d_203_273 : decode (mC 203) 273 = .ok (.putfield 396, 3) := by decide +kernel
theorem fp_CordLoftModel_396 : FP 0 "CordLoftModel" 396 12 59 := ⟨⟨_, rfl, by decide, List.mem_of_getElem? (i := 1350) (by decide +kernel), rfl⟩, rfl, by decide, by decide +kernel⟩
theorem d_203_276 : decode (mC 203) 276 = .ok (.iconst 0, 1) := by decide +kernel
theorem d_203_277 : decode (mC 203) 277 = .ok (.istore_n 1, 1) := by decide +kernel
theorem d_203_296 : decode (mC 203) 296 = .ok (.aload_n 0, 1) := by decide +kernel
theorem d_203_297 : decode (mC 203) 297 = .ok (.getfield 303, 3) := by decide +kernel
theorem d_203_300 : decode (mC 203) 300 = .ok (.ireturn, 1) := by decide +kernel
theorem mr_203 : mR 203 = some .int := by decide +kernel
theorem d_203_0 : decode (mC 203) 0 = .ok (.aload_n 0, 1) := by decide +kernel
theorem d_203_1 : decode (mC 203) 1 = .ok (.invokevirtual 366, 3) := by decide +kernel
theorem mo_204 : MOK 204 := ⟨List.mem_of_getElem? (i := 1524) (by decide +kernel), by decide +kernel, ⟨by decide +kernel, by decide +kernel⟩, List.mem_of_getElem? (i := 100) (by decide +kernel), by decide +kernel⟩
theorem m0_204 : M0K 204 := ⟨by decide +kernel, by decide +kernel⟩
theorem vk_203_366 : VK 203 366 204 0 12 := ⟨⟨List.mem_of_getElem? (i := 1521) (by decide +kernel), by decide +kernel⟩, List.mem_of_getElem? (i := 1523) (by decide +kernel), mo_204, m0_204, _, rfl, List.mem_of_getElem? (i := 30) (by decide +kernel), by decide⟩
theorem d_203_4 : decode (mC 203) 4 = .ok (.aload_n 0, 1) := by decide +kernel
theorem d_203_5 : decode (mC 203) 5 = .ok (.getfield 152, 3) := by decide +kernel
theorem d_203_8 : decode (mC 203) 8 = .ok (.ifCond .le 5, 3) := by decide +kernel
theorem d_203_13 : decode (mC 203) 13 = .ok (.aload_n 0, 1) := by decide +kernel
theorem d_203_14 : decode (mC 203) 14 = .ok (.aload_n 0, 1) := by decide +kernel
theorem d_203_15 : decode (mC 203) 15 = .ok (.getfield 223, 3) := by decide +kernel
theorem d_203_18 : decode (mC 203) 18 = .ok (.putfield 303, 3) := by decide +kernel
theorem fp_CordLoftModel_303 : FP 0 "CordLoftModel" 303 12 41 := ⟨⟨_, rfl, by decide, List.mem_of_getElem? (i := 1332) (by decide +kernel), rfl⟩, rfl, by decide, by decide +kernel⟩
theorem d_203_21 : decode (mC 203) 21 = .ok (.aload_n 0, 1) := by decide +kernel
theorem d_203_22 : decode (mC 203) 22 = .ok (.aload_n 0, 1) := by decide +kernel
theorem d_203_23 : decode (mC 203) 23 = .ok (.getfield 323, 3) := by decide +kernel
theorem d_203_26 : decode (mC 203) 26 = .ok (.putfield 369, 3) := by decide +kernel
theorem fp_CordLoftModel_369 : FP 0 "CordLoftModel" 369 12 42 := ⟨⟨_, rfl, by decide, List.mem_of_getElem? (i := 1333) (by decide +kernel), rfl⟩, rfl, by decide, by decide +kernel⟩
theorem d_203_29 : decode (mC 203) 29 = .ok (.aload_n 0, 1) := by decide +kernel
theorem d_203_30 : decode (mC 203) 30 = .ok (.aload_n 0, 1) := by decide +kernel
theorem d_203_31 : decode (mC 203) 31 = .ok (.getfield 313, 3) := by decide +kernel
theorem d_203_34 : decode (mC 203) 34 = .ok (.putfield 372, 3) := by decide +kernel
theorem fp_CordLoftModel_372 : FP 0 "CordLoftModel" 372 12 43 := ⟨⟨_, rfl, by decide, List.mem_of_getElem? (i := 1334) (by decide +kernel), rfl⟩, rfl, by decide, by decide +kernel⟩
theorem d_203_37 : decode (mC 203) 37 = .ok (.aload_n 0, 1) := by decide +kernel
theorem d_203_38 : decode (mC 203) 38 = .ok (.aload_n 0, 1) := by decide +kernel
theorem d_203_39 : decode (mC 203) 39 = .ok (.getfield 348, 3) := by decide +kernel
theorem fk_CordLoftModel_348 : FK 0 "CordLoftModel" 348 12 38 := ⟨⟨_, rfl, by decide, List.mem_of_getElem? (i := 1329) (by decide +kernel)⟩, rfl, by decide⟩
theorem d_203_42 : decode (mC 203) 42 = .ok (.putfield 375, 3) := by decide +kernel
theorem fp_CordLoftModel_375 : FP 0 "CordLoftModel" 375 12 44 := ⟨⟨_, rfl, by decide, List.mem_of_getElem? (i := 1335) (by decide +kernel), rfl⟩, rfl, by decide, by decide +kernel⟩
theorem d_203_45 : decode (mC 203) 45 = .ok (.aload_n 0, 1) := by decide +kernel
theorem d_203_46 : decode (mC 203) 46 = .ok (.aload_n 0, 1) := by decide +kernel
theorem d_203_47 : decode (mC 203) 47 = .ok (.getfield 354, 3) := by decide +kernel
theorem fk_CordLoftModel_354 : FK 0 "CordLoftModel" 354 12 39 := ⟨⟨_, rfl, by decide, List.mem_of_getElem? (i := 1330) (by decide +kernel)⟩, rfl, by decide⟩
theorem d_203_50 : decode (mC 203) 50 = .ok (.putfield 378, 3) := by decide +kernel
theorem fp_CordLoftModel_378 : FP 0 "CordLoftModel" 378 12 45 := ⟨⟨_, rfl, by decide, List.mem_of_getElem? (i := 1336) (by decide +kernel), rfl⟩, rfl, by decide, by decide +kernel⟩
theorem d_203_53 : decode (mC 203) 53 = .ok (.aload_n 0, 1) := by decide +kernel
theorem d_203_54 : decode (mC 203) 54 = .ok (.aload_n 0, 1) := by decide +kernel
theorem d_203_55 : decode (mC 203) 55 = .ok (.getfield 360, 3) := by decide +kernel
theorem fk_CordLoftModel_360 : FK 0 "CordLoftModel" 360 12 40 := ⟨⟨_, rfl, by decide, List.mem_of_getElem? (i := 1331) (by decide +kernel)⟩, rfl, by decide⟩
theorem d_203_58 : decode (mC 203) 58 = .ok (.putfield 381, 3) := by decide +kernel
theorem fp_CordLoftModel_381 : FP 0 "CordLoftModel" 381 12 46 := ⟨⟨_, rfl, by decide, List.mem_of_getElem? (i := 1337) (by decide +kernel), rfl⟩, rfl, by decide, by decide +kernel⟩
theorem d_203_61 : decode (mC 203) 61 = .ok (.aload_n 0, 1) := by decide +kernel
theorem d_203_62 : decode (mC 203) 62 = .ok (.aload_n 0, 1) := by decide +kernel
theorem d_203_63 : decode (mC 203) 63 = .ok (.getfield 242, 3) := by decide +kernel
theorem d_203_66 : decode (mC 203) 66 = .ok (.putfield 384, 3) := by decide +kernel
theorem fp_CordLoftModel_384 : FP 0 "CordLoftModel" 384 12 21 := ⟨⟨_, rfl, by decide, List.mem_of_getElem? (i := 1312) (by decide +kernel), rfl⟩, rfl, by decide, by decide +kernel⟩
theorem d_203_69 : decode (mC 203) 69 = .ok (.aload_n 0, 1) := by decide +kernel
theorem d_203_70 : decode (mC 203) 70 = .ok (.aload_n 0, 1) := by decide +kernel
theorem d_203_71 : decode (mC 203) 71 = .ok (.getfield 264, 3) := by decide +kernel
theorem d_203_74 : decode (mC 203) 74 = .ok (.putfield 287, 3) := by decide +kernel
theorem fp_CordLoftModel_287 : FP 3 "CordLoftModel" 287 12 25 := ⟨⟨_, rfl, by decide, List.mem_of_getElem? (i := 1316) (by decide +kernel), rfl⟩, rfl, by decide, by decide +kernel⟩
theorem d_203_77 : decode (mC 203) 77 = .ok (.aload_n 0, 1) := by decide +kernel
theorem d_203_78 : decode (mC 203) 78 = .ok (.aload_n 0, 1) := by decide +kernel
theorem d_203_79 : decode (mC 203) 79 = .ok (.getfield 264, 3) := by decide +kernel
theorem d_203_82 : decode (mC 203) 82 = .ok (.ifCond .eq 10, 3) := by decide +kernel
theorem d_203_92 : decode (mC 203) 92 = .ok (.iconst 0, 1) := by decide +kernel
theorem d_203_85 : decode (mC 203) 85 = .ok (.aload_n 0, 1) := by decide +kernel
theorem d_203_86 : decode (mC 203) 86 = .ok (.getfield 226, 3) := by decide +kernel
theorem d_203_89 : decode (mC 203) 89 = .ok (.goto 4, 3) := by decide +kernel
theorem d_203_11 : decode (mC 203) 11 = .ok (.iconst (-1), 1) := by decide +kernel
theorem d_203_12 : decode (mC 203) 12 = .ok (.ireturn, 1) := by decide +kernel
theorem d_240_0 : decode (mC 240) 0 = .ok (.iload_n 1, 1) := by decide +kernel
theorem d_240_1 : decode (mC 240) 1 = .ok (.ifCond .ne 10, 3) := by decide +kernel
theorem d_240_11 : decode (mC 240) 11 = .ok (.iload_n 1, 1) := by decide +kernel
theorem d_240_12 : decode (mC 240) 12 = .ok (.iconst 1, 1) := by decide +kernel
theorem d_240_13 : decode (mC 240) 13 = .ok (.if_icmp .ne 10, 3) := by decide +kernel
theorem d_240_23 : decode (mC 240) 23 = .ok (.iconst (-1), 1) := by decide +kernel
theorem d_240_24 : decode (mC 240) 24 = .ok (.ireturn, 1) := by decide +kernel
theorem mr_240 : mR 240 = some .int := by decide +kernel
theorem d_240_16 : decode (mC 240) 16 = .ok (.aload_n 0, 1) := by decide +kernel
theorem d_240_17 : decode (mC 240) 17 = .ok (.getfield 13, 3) := by decide +kernel
theorem fk_CordLoftModel_13 : FK 0 "CordLoftModel" 13 12 3 := ⟨⟨_, rfl, by decide, List.mem_of_getElem? (i := 1294) (by decide +kernel)⟩, rfl, by decide⟩
theorem cn_240 : (mN 240).cls = "CordLoftModel" := by decide +kernel
theorem d_240_20 : decode (mC 240) 20 = .ok (.goto 4, 3) := by decide +kernel
theorem d_240_4 : decode (mC 240) 4 = .ok (.aload_n 0, 1) := by decide +kernel
theorem d_240_5 : decode (mC 240) 5 = .ok (.getfield 152, 3) := by decide +kernel
theorem d_240_8 : decode (mC 240) 8 = .ok (.goto 16, 3) := by decide +kernel
theorem ml_240 : mL 240 = 2 := by decide +kernel
theorem d_243_0 : decode (mC 243) 0 = .ok (.iload_n 0, 1) := by decide +kernel
theorem d_243_1 : decode (mC 243) 1 = .ok (.iload_n 1, 1) := by decide +kernel
theorem d_243_2 : decode (mC 243) 2 = .ok (.if_icmp .lt 12, 3) := by decide +kernel
theorem d_243_14 : decode (mC 243) 14 = .ok (.iconst 0, 1) := by decide +kernel
theorem d_243_15 : decode (mC 243) 15 = .ok (.ireturn, 1) := by decide +kernel
theorem mr_243 : mR 243 = some .boolean := by decide +kernel
theorem d_243_5 : decode (mC 243) 5 = .ok (.iload_n 0, 1) := by decide +kernel
theorem d_243_6 : decode (mC 243) 6 = .ok (.iload_n 2, 1) := by decide +kernel
theorem d_243_7 : decode (mC 243) 7 = .ok (.if_icmp .gt 7, 3) := by decide +kernel
theorem d_243_10 : decode (mC 243) 10 = .ok (.iconst 1, 1) := by decide +kernel
theorem d_243_11 : decode (mC 243) 11 = .ok (.goto 4, 3) := by decide +kernel
theorem ml_243 : mL 243 = 3 := by decide +kernel
theorem d_242_0 : decode (mC 242) 0 = .ok (.iload_n 1, 1) := by decide +kernel
theorem d_242_1 : decode (mC 242) 1 = .ok (.iconst 0, 1) := by decide +kernel
theorem d_242_2 : decode (mC 242) 2 = .ok (.aload_n 0, 1) := by decide +kernel
theorem d_242_3 : decode (mC 242) 3 = .ok (.getfield 303, 3) := by decide +kernel
theorem cn_242 : (mN 242).cls = "CordLoftModel" := by decide +kernel
theorem d_242_6 : decode (mC 242) 6 = .ok (.iconst 1, 1) := by decide +kernel
theorem d_242_7 : decode (mC 242) 7 = .ok (.isub, 1) := by decide +kernel
theorem d_242_8 : decode (mC 242) 8 = .ok (.invokestatic 399, 3) := by decide +kernel
theorem mo_243 : MOK 243 := ⟨List.mem_of_getElem? (i := 1692) (by decide +kernel), by decide +kernel, ⟨by decide +kernel, by decide +kernel⟩, List.mem_of_getElem? (i := 100) (by decide +kernel), by decide +kernel⟩
theorem m0_243 : M0K 243 := ⟨by decide +kernel, by decide +kernel⟩
theorem sk_242_399 : SKc 242 399 243 3 := ⟨⟨List.mem_of_getElem? (i := 1690) (by decide +kernel), by decide +kernel⟩, List.mem_of_getElem? (i := 1691) (by decide +kernel), mo_243, m0_243⟩
theorem d_242_11 : decode (mC 242) 11 = .ok (.ireturn, 1) := by decide +kernel
theorem mr_242 : mR 242 = some .boolean := by decide +kernel
theorem ml_242 : mL 242 = 2 := by decide +kernel
theorem d_244_4 : decode (mC 244) 4 = .ok (.iload_n 3, 1) := by decide +kernel
theorem d_244_5 : decode (mC 244) 5 = .ok (.aload_n 0, 1) := by decide +kernel
theorem d_244_6 : decode (mC 244) 6 = .ok (.getfield 369, 3) := by decide +kernel
theorem cn_244 : (mN 244).cls = "CordLoftModel" := by decide +kernel
theorem d_244_9 : decode (mC 244) 9 = .ok (.if_icmp .ge 24, 3) := by decide +kernel
theorem d_244_12 : decode (mC 244) 12 = .ok (.iload_n 2, 1) := by decide +kernel
theorem d_244_13 : decode (mC 244) 13 = .ok (.aload_n 0, 1) := by decide +kernel
theorem d_244_14 : decode (mC 244) 14 = .ok (.getfield 60, 3) := by decide +kernel
theorem d_244_17 : decode (mC 244) 17 = .ok (.iload_n 3, 1) := by decide +kernel
theorem d_244_18 : decode (mC 244) 18 = .ok (.iaload, 1) := by decide +kernel
theorem d_244_19 : decode (mC 244) 19 = .ok (.iload_n 1, 1) := by decide +kernel
theorem d_244_20 : decode (mC 244) 20 = .ok (.ishr, 1) := by decide +kernel
theorem d_244_21 : decode (mC 244) 21 = .ok (.iconst 1, 1) := by decide +kernel
theorem d_244_22 : decode (mC 244) 22 = .ok (.iand, 1) := by decide +kernel
theorem d_244_23 : decode (mC 244) 23 = .ok (.iload_n 3, 1) := by decide +kernel
theorem d_244_24 : decode (mC 244) 24 = .ok (.ishl, 1) := by decide +kernel
theorem d_244_25 : decode (mC 244) 25 = .ok (.ior, 1) := by decide +kernel
theorem d_244_26 : decode (mC 244) 26 = .ok (.istore_n 2, 1) := by decide +kernel
theorem ml_244 : mL 244 = 4 := by decide +kernel
theorem d_244_27 : decode (mC 244) 27 = .ok (.iinc 3 1, 3) := by decide +kernel
theorem d_244_30 : decode (mC 244) 30 = .ok (.goto (-26), 3) := by decide +kernel
theorem d_244_0 : decode (mC 244) 0 = .ok (.iconst 0, 1) := by decide +kernel
theorem d_244_1 : decode (mC 244) 1 = .ok (.istore_n 2, 1) := by decide +kernel
theorem d_244_2 : decode (mC 244) 2 = .ok (.iconst 0, 1) := by decide +kernel
theorem d_244_3 : decode (mC 244) 3 = .ok (.istore_n 3, 1) := by decide +kernel
theorem d_244_33 : decode (mC 244) 33 = .ok (.iload_n 2, 1) := by decide +kernel
theorem d_244_34 : decode (mC 244) 34 = .ok (.ireturn, 1) := by decide +kernel
theorem mr_244 : mR 244 = some .int := by decide +kernel
theorem d_241_0 : decode (mC 241) 0 = .ok (.aload_n 0, 1) := by decide +kernel
theorem d_241_1 : decode (mC 241) 1 = .ok (.iload_n 1, 1) := by decide +kernel
theorem d_241_2 : decode (mC 241) 2 = .ok (.invokevirtual 402, 3) := by decide +kernel
theorem mo_242 : MOK 242 := ⟨List.mem_of_getElem? (i := 1689) (by decide +kernel), by decide +kernel, ⟨by decide +kernel, by decide +kernel⟩, List.mem_of_getElem? (i := 100) (by decide +kernel), by decide +kernel⟩
theorem m0_242 : M0K 242 := ⟨by decide +kernel, by decide +kernel⟩
theorem vk_241_402 : VK 241 402 242 1 12 := ⟨⟨List.mem_of_getElem? (i := 1686) (by decide +kernel), by decide +kernel⟩, List.mem_of_getElem? (i := 1688) (by decide +kernel), mo_242, m0_242, _, rfl, List.mem_of_getElem? (i := 61) (by decide +kernel), by decide⟩
theorem d_241_5 : decode (mC 241) 5 = .ok (.ifCond .ne 5, 3) := by decide +kernel
theorem d_241_10 : decode (mC 241) 10 = .ok (.iload_n 2, 1) := by decide +kernel
theorem d_241_11 : decode (mC 241) 11 = .ok (.tableswitch 60 0 3 #[29, 40, 47, 53], 29) := by decide +kernel
theorem d_241_40 : decode (mC 241) 40 = .ok (.aload_n 0, 1) := by decide +kernel
theorem d_241_41 : decode (mC 241) 41 = .ok (.getfield 66, 3) := by decide +kernel
theorem cn_241 : (mN 241).cls = "CordLoftModel" := by decide +kernel
theorem d_241_44 : decode (mC 241) 44 = .ok (.iconst 0, 1) := by decide +kernel
theorem d_241_45 : decode (mC 241) 45 = .ok (.iaload, 1) := by decide +kernel
theorem d_241_46 : decode (mC 241) 46 = .ok (.iload_n 1, 1) := by decide +kernel
theorem d_241_47 : decode (mC 241) 47 = .ok (.ishr, 1) := by decide +kernel
theorem d_241_48 : decode (mC 241) 48 = .ok (.iconst 1, 1) := by decide +kernel
theorem d_241_49 : decode (mC 241) 49 = .ok (.iand, 1) := by decide +kernel
theorem d_241_50 : decode (mC 241) 50 = .ok (.ireturn, 1) := by decide +kernel
theorem mr_241 : mR 241 = some .int := by decide +kernel
theorem d_241_51 : decode (mC 241) 51 = .ok (.aload_n 0, 1) := by decide +kernel
theorem d_241_52 : decode (mC 241) 52 = .ok (.getfield 54, 3) := by decide +kernel
theorem d_241_55 : decode (mC 241) 55 = .ok (.iload_n 1, 1) := by decide +kernel
theorem d_241_56 : decode (mC 241) 56 = .ok (.iaload, 1) := by decide +kernel
theorem d_241_57 : decode (mC 241) 57 = .ok (.ireturn, 1) := by decide +kernel
theorem d_241_58 : decode (mC 241) 58 = .ok (.aload_n 0, 1) := by decide +kernel
theorem d_241_59 : decode (mC 241) 59 = .ok (.iload_n 1, 1) := by decide +kernel
theorem d_241_60 : decode (mC 241) 60 = .ok (.invokevirtual 293, 3) := by decide +kernel
theorem mo_244 : MOK 244 := ⟨List.mem_of_getElem? (i := 1696) (by decide +kernel), by decide +kernel, ⟨by decide +kernel, by decide +kernel⟩, List.mem_of_getElem? (i := 100) (by decide +kernel), by decide +kernel⟩
theorem m0_244 : M0K 244 := ⟨by decide +kernel, by decide +kernel⟩
theorem vk_241_293 : VK 241 293 244 1 12 := ⟨⟨List.mem_of_getElem? (i := 1693) (by decide +kernel), by decide +kernel⟩, List.mem_of_getElem? (i := 1695) (by decide +kernel), mo_244, m0_244, _, rfl, List.mem_of_getElem? (i := 62) (by decide +kernel), by decide⟩
theorem d_241_63 : decode (mC 241) 63 = .ok (.ireturn, 1) := by decide +kernel
theorem d_241_64 : decode (mC 241) 64 = .ok (.aload_n 0, 1) := by decide +kernel
theorem d_241_65 : decode (mC 241) 65 = .ok (.getfield 57, 3) := by decide +kernel
theorem d_241_68 : decode (mC 241) 68 = .ok (.iload_n 1, 1) := by decide +kernel
theorem d_241_69 : decode (mC 241) 69 = .ok (.iaload, 1) := by decide +kernel
theorem d_241_70 : decode (mC 241) 70 = .ok (.ireturn, 1) := by decide +kernel
theorem d_241_71 : decode (mC 241) 71 = .ok (.iconst (-1), 1) := by decide +kernel
theorem d_241_72 : decode (mC 241) 72 = .ok (.ireturn, 1) := by decide +kernel
theorem d_241_8 : decode (mC 241) 8 = .ok (.iconst (-1), 1) := by decide +kernel
theorem d_241_9 : decode (mC 241) 9 = .ok (.ireturn, 1) := by decide +kernel
theorem ml_241 : mL 241 = 3 := by decide +kernel
theorem d_246_0 : decode (mC 246) 0 = .ok (.iload_n 1, 1) := by decide +kernel
theorem d_246_1 : decode (mC 246) 1 = .ok (.iconst 0, 1) := by decide +kernel
theorem d_246_2 : decode (mC 246) 2 = .ok (.aload_n 0, 1) := by decide +kernel
theorem d_246_3 : decode (mC 246) 3 = .ok (.getfield 369, 3) := by decide +kernel
theorem cn_246 : (mN 246).cls = "CordLoftModel" := by decide +kernel
theorem d_246_6 : decode (mC 246) 6 = .ok (.iconst 1, 1) := by decide +kernel
theorem d_246_7 : decode (mC 246) 7 = .ok (.isub, 1) := by decide +kernel
theorem d_246_8 : decode (mC 246) 8 = .ok (.invokestatic 399, 3) := by decide +kernel
theorem sk_246_399 : SKc 246 399 243 3 := ⟨⟨List.mem_of_getElem? (i := 1690) (by decide +kernel), by decide +kernel⟩, List.mem_of_getElem? (i := 1691) (by decide +kernel), mo_243, m0_243⟩
theorem d_246_11 : decode (mC 246) 11 = .ok (.ireturn, 1) := by decide +kernel
theorem mr_246 : mR 246 = some .boolean := by decide +kernel
theorem ml_246 : mL 246 = 2 := by decide +kernel
theorem d_245_0 : decode (mC 245) 0 = .ok (.aload_n 0, 1) := by decide +kernel
theorem d_245_1 : decode (mC 245) 1 = .ok (.iload_n 1, 1) := by decide +kernel
theorem d_245_2 : decode (mC 245) 2 = .ok (.invokevirtual 405, 3) := by decide +kernel
theorem mo_246 : MOK 246 := ⟨List.mem_of_getElem? (i := 1704) (by decide +kernel), by decide +kernel, ⟨by decide +kernel, by decide +kernel⟩, List.mem_of_getElem? (i := 100) (by decide +kernel), by decide +kernel⟩
theorem m0_246 : M0K 246 := ⟨by decide +kernel, by decide +kernel⟩
theorem vk_245_405 : VK 245 405 246 1 12 := ⟨⟨List.mem_of_getElem? (i := 1701) (by decide +kernel), by decide +kernel⟩, List.mem_of_getElem? (i := 1703) (by decide +kernel), mo_246, m0_246, _, rfl, List.mem_of_getElem? (i := 63) (by decide +kernel), by decide⟩
theorem d_245_5 : decode (mC 245) 5 = .ok (.ifCond .ne 7, 3) := by decide +kernel
theorem d_245_12 : decode (mC 245) 12 = .ok (.iload_n 2, 1) := by decide +kernel
theorem d_245_13 : decode (mC 245) 13 = .ok (.ifCond .ne 12, 3) := by decide +kernel
theorem d_245_25 : decode (mC 245) 25 = .ok (.iload_n 2, 1) := by decide +kernel
theorem d_245_26 : decode (mC 245) 26 = .ok (.iconst 1, 1) := by decide +kernel
theorem d_245_27 : decode (mC 245) 27 = .ok (.if_icmp .ne 12, 3) := by decide +kernel
theorem d_245_39 : decode (mC 245) 39 = .ok (.iload_n 2, 1) := by decide +kernel
theorem d_245_40 : decode (mC 245) 40 = .ok (.iconst 2, 1) := by decide +kernel
theorem d_245_41 : decode (mC 245) 41 = .ok (.if_icmp .ne 16, 3) := by decide +kernel
theorem d_245_57 : decode (mC 245) 57 = .ok (.iconst (-1), 1) := by decide +kernel
theorem d_245_58 : decode (mC 245) 58 = .ok (.ireturn, 1) := by decide +kernel
theorem mr_245 : mR 245 = some .int := by decide +kernel
theorem d_245_44 : decode (mC 245) 44 = .ok (.aload_n 0, 1) := by decide +kernel
theorem d_245_45 : decode (mC 245) 45 = .ok (.getfield 66, 3) := by decide +kernel
theorem cn_245 : (mN 245).cls = "CordLoftModel" := by decide +kernel
theorem d_245_48 : decode (mC 245) 48 = .ok (.iconst 1, 1) := by decide +kernel
theorem d_245_49 : decode (mC 245) 49 = .ok (.iaload, 1) := by decide +kernel
theorem d_245_50 : decode (mC 245) 50 = .ok (.iload_n 1, 1) := by decide +kernel
theorem d_245_51 : decode (mC 245) 51 = .ok (.ishr, 1) := by decide +kernel
theorem d_245_52 : decode (mC 245) 52 = .ok (.iconst 1, 1) := by decide +kernel
theorem d_245_53 : decode (mC 245) 53 = .ok (.iand, 1) := by decide +kernel
theorem d_245_54 : decode (mC 245) 54 = .ok (.goto 4, 3) := by decide +kernel
theorem d_245_30 : decode (mC 245) 30 = .ok (.aload_n 0, 1) := by decide +kernel
theorem d_245_31 : decode (mC 245) 31 = .ok (.getfield 63, 3) := by decide +kernel
theorem d_245_34 : decode (mC 245) 34 = .ok (.iload_n 1, 1) := by decide +kernel
theorem d_245_35 : decode (mC 245) 35 = .ok (.iaload, 1) := by decide +kernel
theorem d_245_36 : decode (mC 245) 36 = .ok (.goto 22, 3) := by decide +kernel
theorem d_245_16 : decode (mC 245) 16 = .ok (.aload_n 0, 1) := by decide +kernel
theorem d_245_17 : decode (mC 245) 17 = .ok (.getfield 60, 3) := by decide +kernel
theorem d_245_20 : decode (mC 245) 20 = .ok (.iload_n 1, 1) := by decide +kernel
theorem d_245_21 : decode (mC 245) 21 = .ok (.iaload, 1) := by decide +kernel
theorem d_245_22 : decode (mC 245) 22 = .ok (.goto 36, 3) := by decide +kernel
theorem d_245_8 : decode (mC 245) 8 = .ok (.iconst (-1), 1) := by decide +kernel
theorem d_245_9 : decode (mC 245) 9 = .ok (.goto 49, 3) := by decide +kernel
theorem ml_245 : mL 245 = 3 := by decide +kernel
theorem d_247_0 : decode (mC 247) 0 = .ok (.aload_n 0, 1) := by decide +kernel
theorem d_247_1 : decode (mC 247) 1 = .ok (.getfield 66, 3) := by decide +kernel
theorem cn_247 : (mN 247).cls = "CordLoftModel" := by decide +kernel
theorem d_247_4 : decode (mC 247) 4 = .ok (.iconst 0, 1) := by decide +kernel
theorem d_247_5 : decode (mC 247) 5 = .ok (.iaload, 1) := by decide +kernel
theorem d_247_6 : decode (mC 247) 6 = .ok (.ireturn, 1) := by decide +kernel
theorem mr_247 : mR 247 = some .int := by decide +kernel
theorem ml_247 : mL 247 = 1 := by decide +kernel
theorem d_249_0 : decode (mC 249) 0 = .ok (.aload_n 0, 1) := by decide +kernel
theorem d_249_1 : decode (mC 249) 1 = .ok (.getfield 66, 3) := by decide +kernel
theorem cn_249 : (mN 249).cls = "CordLoftModel" := by decide +kernel
theorem d_249_4 : decode (mC 249) 4 = .ok (.iconst 1, 1) := by decide +kernel
theorem d_249_5 : decode (mC 249) 5 = .ok (.iaload, 1) := by decide +kernel
theorem d_249_6 : decode (mC 249) 6 = .ok (.iload_n 1, 1) := by decide +kernel
theorem d_249_7 : decode (mC 249) 7 = .ok (.invokestatic 326, 3) := by decide +kernel
theorem sk_249_326 : SKc 249 326 225 2 := ⟨⟨List.mem_of_getElem? (i := 1620) (by decide +kernel), by decide +kernel⟩, List.mem_of_getElem? (i := 1621) (by decide +kernel), mo_225, m0_225⟩
theorem d_249_10 : decode (mC 249) 10 = .ok (.ireturn, 1) := by decide +kernel
theorem mr_249 : mR 249 = some .boolean := by decide +kernel
theorem ml_249 : mL 249 = 2 := by decide +kernel
theorem d_250_4 : decode (mC 250) 4 = .ok (.iload_n 2, 1) := by decide +kernel
theorem d_250_5 : decode (mC 250) 5 = .ok (.bipush 8, 2) := by decide +kernel
theorem d_250_7 : decode (mC 250) 7 = .ok (.if_icmp .ge 17, 3) := by decide +kernel
theorem d_250_10 : decode (mC 250) 10 = .ok (.iload_n 1, 1) := by decide +kernel
theorem d_250_11 : decode (mC 250) 11 = .ok (.iload_n 0, 1) := by decide +kernel
theorem d_250_12 : decode (mC 250) 12 = .ok (.iload_n 2, 1) := by decide +kernel
theorem d_250_13 : decode (mC 250) 13 = .ok (.ishr, 1) := by decide +kernel
theorem d_250_14 : decode (mC 250) 14 = .ok (.iconst 1, 1) := by decide +kernel
theorem d_250_15 : decode (mC 250) 15 = .ok (.iand, 1) := by decide +kernel
theorem d_250_16 : decode (mC 250) 16 = .ok (.iadd, 1) := by decide +kernel
theorem d_250_17 : decode (mC 250) 17 = .ok (.istore_n 1, 1) := by decide +kernel
theorem ml_250 : mL 250 = 3 := by decide +kernel
theorem d_250_18 : decode (mC 250) 18 = .ok (.iinc 2 1, 3) := by decide +kernel
theorem d_250_21 : decode (mC 250) 21 = .ok (.goto (-17), 3) := by decide +kernel
theorem d_250_0 : decode (mC 250) 0 = .ok (.iconst 0, 1) := by decide +kernel
theorem d_250_1 : decode (mC 250) 1 = .ok (.istore_n 1, 1) := by decide +kernel
theorem d_250_2 : decode (mC 250) 2 = .ok (.iconst 0, 1) := by decide +kernel
theorem d_250_3 : decode (mC 250) 3 = .ok (.istore_n 2, 1) := by decide +kernel
theorem d_250_24 : decode (mC 250) 24 = .ok (.iload_n 1, 1) := by decide +kernel
theorem d_250_25 : decode (mC 250) 25 = .ok (.ireturn, 1) := by decide +kernel
theorem mr_250 : mR 250 = some .int := by decide +kernel
theorem d_251_50 : decode (mC 251) 50 = .ok (.iload_n 1, 1) := by decide +kernel
theorem d_251_51 : decode (mC 251) 51 = .ok (.iconst 5, 1) := by decide +kernel
theorem d_251_52 : decode (mC 251) 52 = .ok (.if_icmp .ge 28, 3) := by decide +kernel
theorem d_251_55 : decode (mC 251) 55 = .ok (.aload_n 0, 1) := by decide +kernel
theorem d_251_56 : decode (mC 251) 56 = .ok (.getfield 69, 3) := by decide +kernel
theorem fk_CordLoftModel_69 : FK 2 "CordLoftModel" 69 12 51 := ⟨⟨_, rfl, by decide, List.mem_of_getElem? (i := 1342) (by decide +kernel)⟩, rfl, by decide⟩
theorem cn_251 : (mN 251).cls = "CordLoftModel" := by decide +kernel
theorem ft_13_51 : finT 13 51 = some (124, 0) := by decide +kernel
theorem k_124 : kd0 124 = 20 := by decide +kernel
theorem l_124 : ln0 124 = 200 := by decide +kernel
theorem d_251_59 : decode (mC 251) 59 = .ok (.iconst 5, 1) := by decide +kernel
theorem d_251_60 : decode (mC 251) 60 = .ok (.aload_n 0, 1) := by decide +kernel
theorem d_251_61 : decode (mC 251) 61 = .ok (.getfield 387, 3) := by decide +kernel
theorem fk_CordLoftModel_387 : FK 0 "CordLoftModel" 387 12 52 := ⟨⟨_, rfl, by decide, List.mem_of_getElem? (i := 1343) (by decide +kernel)⟩, rfl, by decide⟩
theorem d_251_64 : decode (mC 251) 64 = .ok (.imul, 1) := by decide +kernel
theorem d_251_65 : decode (mC 251) 65 = .ok (.iload_n 1, 1) := by decide +kernel
theorem d_251_66 : decode (mC 251) 66 = .ok (.iadd, 1) := by decide +kernel
theorem d_251_67 : decode (mC 251) 67 = .ok (.aload_n 0, 1) := by decide +kernel
theorem d_251_68 : decode (mC 251) 68 = .ok (.getfield 66, 3) := by decide +kernel
theorem d_251_71 : decode (mC 251) 71 = .ok (.iload_n 1, 1) := by decide +kernel
theorem d_251_72 : decode (mC 251) 72 = .ok (.iaload, 1) := by decide +kernel
theorem d_251_73 : decode (mC 251) 73 = .ok (.iastore, 1) := by decide +kernel
theorem d_251_74 : decode (mC 251) 74 = .ok (.iinc 1 1, 3) := by decide +kernel
theorem ml_251 : mL 251 = 2 := by decide +kernel
theorem d_251_77 : decode (mC 251) 77 = .ok (.goto (-27), 3) := by decide +kernel
theorem d_251_48 : decode (mC 251) 48 = .ok (.iconst 0, 1) := by decide +kernel
theorem d_251_49 : decode (mC 251) 49 = .ok (.istore_n 1, 1) := by decide +kernel
theorem d_251_80 : decode (mC 251) 80 = .ok (.aload_n 0, 1) := by decide +kernel
theorem d_251_81 : decode (mC 251) 81 = .ok (.dup, 1) := by decide +kernel
theorem d_251_82 : decode (mC 251) 82 = .ok (.getfield 387, 3) := by decide +kernel
theorem d_251_85 : decode (mC 251) 85 = .ok (.iconst 1, 1) := by decide +kernel
theorem d_251_86 : decode (mC 251) 86 = .ok (.iadd, 1) := by decide +kernel
theorem d_251_87 : decode (mC 251) 87 = .ok (.putfield 387, 3) := by decide +kernel
theorem d_251_90 : decode (mC 251) 90 = .ok (.aload_n 0, 1) := by decide +kernel
theorem d_251_91 : decode (mC 251) 91 = .ok (.iconst 0, 1) := by decide +kernel
theorem d_251_92 : decode (mC 251) 92 = .ok (.putfield 390, 3) := by decide +kernel
theorem d_251_95 : decode (mC 251) 95 = .ok (.return_, 1) := by decide +kernel
theorem mr_251 : mR 251 = none := by decide +kernel
theorem d_251_11 : decode (mC 251) 11 = .ok (.iload_n 1, 1) := by decide +kernel
theorem d_251_12 : decode (mC 251) 12 = .ok (.sipush 195, 3) := by decide +kernel
theorem si_195 : (Int16.ofInt 195).toInt32 = 195 := by decide +kernel
theorem d_251_15 : decode (mC 251) 15 = .ok (.if_icmp .ge 23, 3) := by decide +kernel
theorem d_251_18 : decode (mC 251) 18 = .ok (.aload_n 0, 1) := by decide +kernel
theorem d_251_19 : decode (mC 251) 19 = .ok (.getfield 69, 3) := by decide +kernel
theorem d_251_22 : decode (mC 251) 22 = .ok (.iload_n 1, 1) := by decide +kernel
theorem d_251_23 : decode (mC 251) 23 = .ok (.aload_n 0, 1) := by decide +kernel
theorem d_251_24 : decode (mC 251) 24 = .ok (.getfield 69, 3) := by decide +kernel
theorem d_251_27 : decode (mC 251) 27 = .ok (.iconst 5, 1) := by decide +kernel
theorem d_251_28 : decode (mC 251) 28 = .ok (.iload_n 1, 1) := by decide +kernel
theorem d_251_29 : decode (mC 251) 29 = .ok (.iadd, 1) := by decide +kernel
theorem d_251_30 : decode (mC 251) 30 = .ok (.iaload, 1) := by decide +kernel
theorem d_251_31 : decode (mC 251) 31 = .ok (.iastore, 1) := by decide +kernel
theorem d_251_32 : decode (mC 251) 32 = .ok (.iinc 1 1, 3) := by decide +kernel
theorem d_251_35 : decode (mC 251) 35 = .ok (.goto (-24), 3) := by decide +kernel
theorem d_251_0 : decode (mC 251) 0 = .ok (.aload_n 0, 1) := by decide +kernel
theorem d_251_1 : decode (mC 251) 1 = .ok (.getfield 387, 3) := by decide +kernel
theorem d_251_4 : decode (mC 251) 4 = .ok (.bipush 40, 2) := by decide +kernel
theorem d_251_6 : decode (mC 251) 6 = .ok (.if_icmp .ne 42, 3) := by decide +kernel
theorem d_251_9 : decode (mC 251) 9 = .ok (.iconst 0, 1) := by decide +kernel
theorem d_251_10 : decode (mC 251) 10 = .ok (.istore_n 1, 1) := by decide +kernel
theorem d_251_38 : decode (mC 251) 38 = .ok (.aload_n 0, 1) := by decide +kernel
theorem d_251_39 : decode (mC 251) 39 = .ok (.dup, 1) := by decide +kernel
theorem d_251_40 : decode (mC 251) 40 = .ok (.getfield 387, 3) := by decide +kernel
theorem d_251_43 : decode (mC 251) 43 = .ok (.iconst 1, 1) := by decide +kernel
theorem d_251_44 : decode (mC 251) 44 = .ok (.isub, 1) := by decide +kernel
theorem d_251_45 : decode (mC 251) 45 = .ok (.putfield 387, 3) := by decide +kernel
theorem d_248_0 : decode (mC 248) 0 = .ok (.aload_n 0, 1) := by decide +kernel
theorem d_248_1 : decode (mC 248) 1 = .ok (.iload_n 1, 1) := by decide +kernel
theorem d_248_2 : decode (mC 248) 2 = .ok (.invokevirtual 405, 3) := by decide +kernel
theorem vk_248_405 : VK 248 405 246 1 12 := ⟨⟨List.mem_of_getElem? (i := 1701) (by decide +kernel), by decide +kernel⟩, List.mem_of_getElem? (i := 1703) (by decide +kernel), mo_246, m0_246, _, rfl, List.mem_of_getElem? (i := 63) (by decide +kernel), by decide⟩
theorem d_248_5 : decode (mC 248) 5 = .ok (.ifCond .eq 34, 3) := by decide +kernel
theorem d_248_39 : decode (mC 248) 39 = .ok (.iconst (-1), 1) := by decide +kernel
theorem d_248_40 : decode (mC 248) 40 = .ok (.ireturn, 1) := by decide +kernel
theorem mr_248 : mR 248 = some .int := by decide +kernel
theorem d_248_8 : decode (mC 248) 8 = .ok (.aload_n 0, 1) := by decide +kernel
theorem d_248_9 : decode (mC 248) 9 = .ok (.iload_n 1, 1) := by decide +kernel
theorem d_248_10 : decode (mC 248) 10 = .ok (.invokevirtual 408, 3) := by decide +kernel
theorem mo_249 : MOK 249 := ⟨List.mem_of_getElem? (i := 1716) (by decide +kernel), by decide +kernel, ⟨by decide +kernel, by decide +kernel⟩, List.mem_of_getElem? (i := 100) (by decide +kernel), by decide +kernel⟩
theorem m0_249 : M0K 249 := ⟨by decide +kernel, by decide +kernel⟩
theorem vk_248_408 : VK 248 408 249 1 12 := ⟨⟨List.mem_of_getElem? (i := 1713) (by decide +kernel), by decide +kernel⟩, List.mem_of_getElem? (i := 1715) (by decide +kernel), mo_249, m0_249, _, rfl, List.mem_of_getElem? (i := 64) (by decide +kernel), by decide⟩
theorem d_248_13 : decode (mC 248) 13 = .ok (.ifCond .ne 26, 3) := by decide +kernel
theorem d_248_16 : decode (mC 248) 16 = .ok (.aload_n 0, 1) := by decide +kernel
theorem d_248_17 : decode (mC 248) 17 = .ok (.getfield 66, 3) := by decide +kernel
theorem cn_248 : (mN 248).cls = "CordLoftModel" := by decide +kernel
theorem d_248_20 : decode (mC 248) 20 = .ok (.iconst 0, 1) := by decide +kernel
theorem d_248_21 : decode (mC 248) 21 = .ok (.iaload, 1) := by decide +kernel
theorem d_248_22 : decode (mC 248) 22 = .ok (.aload_n 0, 1) := by decide +kernel
theorem d_248_23 : decode (mC 248) 23 = .ok (.getfield 60, 3) := by decide +kernel
theorem d_248_26 : decode (mC 248) 26 = .ok (.iload_n 1, 1) := by decide +kernel
theorem d_248_27 : decode (mC 248) 27 = .ok (.iaload, 1) := by decide +kernel
theorem d_248_28 : decode (mC 248) 28 = .ok (.ixor, 1) := by decide +kernel
theorem d_248_29 : decode (mC 248) 29 = .ok (.invokestatic 290, 3) := by decide +kernel
theorem mo_250 : MOK 250 := ⟨List.mem_of_getElem? (i := 1719) (by decide +kernel), by decide +kernel, ⟨by decide +kernel, by decide +kernel⟩, List.mem_of_getElem? (i := 100) (by decide +kernel), by decide +kernel⟩
theorem m0_250 : M0K 250 := ⟨by decide +kernel, by decide +kernel⟩
theorem sk_248_290 : SKc 248 290 250 1 := ⟨⟨List.mem_of_getElem? (i := 1717) (by decide +kernel), by decide +kernel⟩, List.mem_of_getElem? (i := 1718) (by decide +kernel), mo_250, m0_250⟩
theorem d_248_32 : decode (mC 248) 32 = .ok (.aload_n 0, 1) := by decide +kernel
theorem d_248_33 : decode (mC 248) 33 = .ok (.getfield 375, 3) := by decide +kernel
theorem fk_CordLoftModel_375 : FK 0 "CordLoftModel" 375 12 44 := ⟨⟨_, rfl, by decide, List.mem_of_getElem? (i := 1335) (by decide +kernel)⟩, rfl, by decide⟩
theorem d_248_36 : decode (mC 248) 36 = .ok (.if_icmp .ge 5, 3) := by decide +kernel
theorem d_248_41 : decode (mC 248) 41 = .ok (.aload_n 0, 1) := by decide +kernel
theorem d_248_42 : decode (mC 248) 42 = .ok (.invokevirtual 411, 3) := by decide +kernel
theorem mo_251 : MOK 251 := ⟨List.mem_of_getElem? (i := 1723) (by decide +kernel), by decide +kernel, ⟨by decide +kernel, by decide +kernel⟩, List.mem_of_getElem? (i := 100) (by decide +kernel), by decide +kernel⟩
theorem m0_251 : M0K 251 := ⟨by decide +kernel, by decide +kernel⟩
theorem vk_248_411 : VK 248 411 251 0 12 := ⟨⟨List.mem_of_getElem? (i := 1720) (by decide +kernel), by decide +kernel⟩, List.mem_of_getElem? (i := 1722) (by decide +kernel), mo_251, m0_251, _, rfl, List.mem_of_getElem? (i := 65) (by decide +kernel), by decide⟩
theorem d_248_45 : decode (mC 248) 45 = .ok (.aload_n 0, 1) := by decide +kernel
theorem d_248_46 : decode (mC 248) 46 = .ok (.getfield 66, 3) := by decide +kernel
theorem d_248_49 : decode (mC 248) 49 = .ok (.iconst 0, 1) := by decide +kernel
theorem d_248_50 : decode (mC 248) 50 = .ok (.dup2, 1) := by decide +kernel
theorem d_248_51 : decode (mC 248) 51 = .ok (.iaload, 1) := by decide +kernel
theorem d_248_52 : decode (mC 248) 52 = .ok (.aload_n 0, 1) := by decide +kernel
theorem d_248_53 : decode (mC 248) 53 = .ok (.getfield 60, 3) := by decide +kernel
theorem d_248_56 : decode (mC 248) 56 = .ok (.iload_n 1, 1) := by decide +kernel
theorem d_248_57 : decode (mC 248) 57 = .ok (.iaload, 1) := by decide +kernel
theorem d_248_58 : decode (mC 248) 58 = .ok (.ixor, 1) := by decide +kernel
theorem d_248_59 : decode (mC 248) 59 = .ok (.iastore, 1) := by decide +kernel
theorem d_248_60 : decode (mC 248) 60 = .ok (.aload_n 0, 1) := by decide +kernel
theorem d_248_61 : decode (mC 248) 61 = .ok (.getfield 66, 3) := by decide +kernel
theorem d_248_64 : decode (mC 248) 64 = .ok (.iconst 2, 1) := by decide +kernel
theorem d_248_65 : decode (mC 248) 65 = .ok (.dup2, 1) := by decide +kernel
theorem d_248_66 : decode (mC 248) 66 = .ok (.iaload, 1) := by decide +kernel
theorem d_248_67 : decode (mC 248) 67 = .ok (.aload_n 0, 1) := by decide +kernel
theorem d_248_68 : decode (mC 248) 68 = .ok (.getfield 63, 3) := by decide +kernel
theorem d_248_71 : decode (mC 248) 71 = .ok (.iload_n 1, 1) := by decide +kernel
theorem d_248_72 : decode (mC 248) 72 = .ok (.iaload, 1) := by decide +kernel
theorem d_248_73 : decode (mC 248) 73 = .ok (.iadd, 1) := by decide +kernel
theorem d_248_74 : decode (mC 248) 74 = .ok (.iastore, 1) := by decide +kernel
theorem d_248_75 : decode (mC 248) 75 = .ok (.aload_n 0, 1) := by decide +kernel
theorem d_248_76 : decode (mC 248) 76 = .ok (.getfield 66, 3) := by decide +kernel
theorem d_248_79 : decode (mC 248) 79 = .ok (.iconst 0, 1) := by decide +kernel
theorem d_248_80 : decode (mC 248) 80 = .ok (.iaload, 1) := by decide +kernel
theorem d_248_81 : decode (mC 248) 81 = .ok (.ireturn, 1) := by decide +kernel
theorem ml_248 : mL 248 = 2 := by decide +kernel
theorem d_253_0 : decode (mC 253) 0 = .ok (.aload_n 0, 1) := by decide +kernel
theorem d_253_1 : decode (mC 253) 1 = .ok (.invokevirtual 411, 3) := by decide +kernel
theorem vk_253_411 : VK 253 411 251 0 12 := ⟨⟨List.mem_of_getElem? (i := 1720) (by decide +kernel), by decide +kernel⟩, List.mem_of_getElem? (i := 1722) (by decide +kernel), mo_251, m0_251, _, rfl, List.mem_of_getElem? (i := 65) (by decide +kernel), by decide⟩
theorem d_253_4 : decode (mC 253) 4 = .ok (.aload_n 0, 1) := by decide +kernel
theorem d_253_5 : decode (mC 253) 5 = .ok (.getfield 66, 3) := by decide +kernel
theorem cn_253 : (mN 253).cls = "CordLoftModel" := by decide +kernel
theorem d_253_8 : decode (mC 253) 8 = .ok (.iconst 1, 1) := by decide +kernel
theorem d_253_9 : decode (mC 253) 9 = .ok (.dup2, 1) := by decide +kernel
theorem d_253_10 : decode (mC 253) 10 = .ok (.iaload, 1) := by decide +kernel
theorem d_253_11 : decode (mC 253) 11 = .ok (.iconst 1, 1) := by decide +kernel
theorem d_253_12 : decode (mC 253) 12 = .ok (.iload_n 1, 1) := by decide +kernel
theorem d_253_13 : decode (mC 253) 13 = .ok (.ishl, 1) := by decide +kernel
theorem d_253_14 : decode (mC 253) 14 = .ok (.ixor, 1) := by decide +kernel
theorem d_253_15 : decode (mC 253) 15 = .ok (.iastore, 1) := by decide +kernel
theorem d_253_16 : decode (mC 253) 16 = .ok (.aload_n 0, 1) := by decide +kernel
theorem d_253_17 : decode (mC 253) 17 = .ok (.getfield 66, 3) := by decide +kernel
theorem d_253_20 : decode (mC 253) 20 = .ok (.iconst 1, 1) := by decide +kernel
theorem d_253_21 : decode (mC 253) 21 = .ok (.iaload, 1) := by decide +kernel
theorem d_253_22 : decode (mC 253) 22 = .ok (.ireturn, 1) := by decide +kernel
theorem mr_253 : mR 253 = some .int := by decide +kernel
theorem ml_253 : mL 253 = 2 := by decide +kernel
theorem d_252_0 : decode (mC 252) 0 = .ok (.aload_n 0, 1) := by decide +kernel
theorem d_252_1 : decode (mC 252) 1 = .ok (.iload_n 1, 1) := by decide +kernel
theorem d_252_2 : decode (mC 252) 2 = .ok (.invokevirtual 405, 3) := by decide +kernel
theorem vk_252_405 : VK 252 405 246 1 12 := ⟨⟨List.mem_of_getElem? (i := 1701) (by decide +kernel), by decide +kernel⟩, List.mem_of_getElem? (i := 1703) (by decide +kernel), mo_246, m0_246, _, rfl, List.mem_of_getElem? (i := 63) (by decide +kernel), by decide⟩
theorem d_252_5 : decode (mC 252) 5 = .ok (.ifCond .eq 19, 3) := by decide +kernel
theorem d_252_24 : decode (mC 252) 24 = .ok (.iconst (-1), 1) := by decide +kernel
theorem d_252_25 : decode (mC 252) 25 = .ok (.ireturn, 1) := by decide +kernel
theorem mr_252 : mR 252 = some .int := by decide +kernel
theorem d_252_8 : decode (mC 252) 8 = .ok (.aload_n 0, 1) := by decide +kernel
theorem d_252_9 : decode (mC 252) 9 = .ok (.iload_n 1, 1) := by decide +kernel
theorem d_252_10 : decode (mC 252) 10 = .ok (.invokevirtual 408, 3) := by decide +kernel
theorem vk_252_408 : VK 252 408 249 1 12 := ⟨⟨List.mem_of_getElem? (i := 1713) (by decide +kernel), by decide +kernel⟩, List.mem_of_getElem? (i := 1715) (by decide +kernel), mo_249, m0_249, _, rfl, List.mem_of_getElem? (i := 64) (by decide +kernel), by decide⟩
theorem d_252_13 : decode (mC 252) 13 = .ok (.ifCond .ne 11, 3) := by decide +kernel
theorem d_252_16 : decode (mC 252) 16 = .ok (.aload_n 0, 1) := by decide +kernel
theorem d_252_17 : decode (mC 252) 17 = .ok (.iload_n 1, 1) := by decide +kernel
theorem d_252_18 : decode (mC 252) 18 = .ok (.invokevirtual 414, 3) := by decide +kernel
theorem mo_253 : MOK 253 := ⟨List.mem_of_getElem? (i := 1731) (by decide +kernel), by decide +kernel, ⟨by decide +kernel, by decide +kernel⟩, List.mem_of_getElem? (i := 100) (by decide +kernel), by decide +kernel⟩
theorem m0_253 : M0K 253 := ⟨by decide +kernel, by decide +kernel⟩
theorem vk_252_414 : VK 252 414 253 1 12 := ⟨⟨List.mem_of_getElem? (i := 1728) (by decide +kernel), by decide +kernel⟩, List.mem_of_getElem? (i := 1730) (by decide +kernel), mo_253, m0_253, _, rfl, List.mem_of_getElem? (i := 66) (by decide +kernel), by decide⟩
theorem d_252_21 : decode (mC 252) 21 = .ok (.goto 4, 3) := by decide +kernel
theorem ml_252 : mL 252 = 2 := by decide +kernel
theorem d_254_0 : decode (mC 254) 0 = .ok (.aload_n 0, 1) := by decide +kernel
theorem d_254_1 : decode (mC 254) 1 = .ok (.iload_n 1, 1) := by decide +kernel
theorem d_254_2 : decode (mC 254) 2 = .ok (.invokevirtual 405, 3) := by decide +kernel
theorem vk_254_405 : VK 254 405 246 1 12 := ⟨⟨List.mem_of_getElem? (i := 1701) (by decide +kernel), by decide +kernel⟩, List.mem_of_getElem? (i := 1703) (by decide +kernel), mo_246, m0_246, _, rfl, List.mem_of_getElem? (i := 63) (by decide +kernel), by decide⟩
theorem d_254_5 : decode (mC 254) 5 = .ok (.ifCond .eq 19, 3) := by decide +kernel
theorem d_254_24 : decode (mC 254) 24 = .ok (.iconst (-1), 1) := by decide +kernel
theorem d_254_25 : decode (mC 254) 25 = .ok (.ireturn, 1) := by decide +kernel
theorem mr_254 : mR 254 = some .int := by decide +kernel
theorem d_254_8 : decode (mC 254) 8 = .ok (.aload_n 0, 1) := by decide +kernel
theorem d_254_9 : decode (mC 254) 9 = .ok (.iload_n 1, 1) := by decide +kernel
theorem d_254_10 : decode (mC 254) 10 = .ok (.invokevirtual 408, 3) := by decide +kernel
theorem vk_254_408 : VK 254 408 249 1 12 := ⟨⟨List.mem_of_getElem? (i := 1713) (by decide +kernel), by decide +kernel⟩, List.mem_of_getElem? (i := 1715) (by decide +kernel), mo_249, m0_249, _, rfl, List.mem_of_getElem? (i := 64) (by decide +kernel), by decide⟩
theorem d_254_13 : decode (mC 254) 13 = .ok (.ifCond .eq 11, 3) := by decide +kernel
theorem d_254_16 : decode (mC 254) 16 = .ok (.aload_n 0, 1) := by decide +kernel
theorem d_254_17 : decode (mC 254) 17 = .ok (.iload_n 1, 1) := by decide +kernel
theorem d_254_18 : decode (mC 254) 18 = .ok (.invokevirtual 414, 3) := by decide +kernel
theorem vk_254_414 : VK 254 414 253 1 12 := ⟨⟨List.mem_of_getElem? (i := 1728) (by decide +kernel), by decide +kernel⟩, List.mem_of_getElem? (i := 1730) (by decide +kernel), mo_253, m0_253, _, rfl, List.mem_of_getElem? (i := 66) (by decide +kernel), by decide⟩
theorem d_254_21 : decode (mC 254) 21 = .ok (.goto 4, 3) := by decide +kernel
theorem ml_254 : mL 254 = 2 := by decide +kernel
theorem d_259_0 : decode (mC 259) 0 = .ok (.iload_n 0, 1) := by decide +kernel
theorem d_259_1 : decode (mC 259) 1 = .ok (.ifCond .eq 7, 3) := by decide +kernel
theorem d_259_8 : decode (mC 259) 8 = .ok (.iconst 0, 1) := by decide +kernel
theorem d_259_9 : decode (mC 259) 9 = .ok (.ireturn, 1) := by decide +kernel
theorem mr_259 : mR 259 = some .int := by decide +kernel
theorem d_259_4 : decode (mC 259) 4 = .ok (.iconst 1, 1) := by decide +kernel
theorem d_259_5 : decode (mC 259) 5 = .ok (.goto 4, 3) := by decide +kernel
theorem ml_259 : mL 259 = 1 := by decide +kernel
theorem d_260_228 : decode (mC 260) 228 = .ok (.invokestatic 283, 3) := by decide +kernel
theorem mo_259 : MOK 259 := ⟨List.mem_of_getElem? (i := 1754) (by decide +kernel), by decide +kernel, ⟨by decide +kernel, by decide +kernel⟩, List.mem_of_getElem? (i := 100) (by decide +kernel), by decide +kernel⟩
theorem m0_259 : M0K 259 := ⟨by decide +kernel, by decide +kernel⟩
theorem sk_260_283 : SKc 260 283 259 1 := ⟨⟨List.mem_of_getElem? (i := 1752) (by decide +kernel), by decide +kernel⟩, List.mem_of_getElem? (i := 1753) (by decide +kernel), mo_259, m0_259⟩
theorem d_260_231 : decode (mC 260) 231 = .ok (.ireturn, 1) := by decide +kernel
theorem mr_260 : mR 260 = some .int := by decide +kernel
theorem d_260_223 : decode (mC 260) 223 = .ok (.iconst 1, 1) := by decide +kernel
theorem d_260_224 : decode (mC 260) 224 = .ok (.goto 4, 3) := by decide +kernel
theorem d_260_215 : decode (mC 260) 215 = .ok (.iload_n 1, 1) := by decide +kernel
theorem d_260_216 : decode (mC 260) 216 = .ok (.ifCond .ne 7, 3) := by decide +kernel
theorem d_260_219 : decode (mC 260) 219 = .ok (.iload_n 2, 1) := by decide +kernel
theorem d_260_220 : decode (mC 260) 220 = .ok (.ifCond .eq 7, 3) := by decide +kernel
theorem d_260_227 : decode (mC 260) 227 = .ok (.iconst 0, 1) := by decide +kernel
theorem d_260_211 : decode (mC 260) 211 = .ok (.invokestatic 283, 3) := by decide +kernel
theorem d_260_214 : decode (mC 260) 214 = .ok (.ireturn, 1) := by decide +kernel
theorem d_260_210 : decode (mC 260) 210 = .ok (.iconst 0, 1) := by decide +kernel
theorem d_260_194 : decode (mC 260) 194 = .ok (.invokestatic 283, 3) := by decide +kernel
theorem d_260_197 : decode (mC 260) 197 = .ok (.ireturn, 1) := by decide +kernel
theorem d_260_180 : decode (mC 260) 180 = .ok (.invokestatic 283, 3) := by decide +kernel
theorem d_260_183 : decode (mC 260) 183 = .ok (.ireturn, 1) := by decide +kernel
theorem d_260_166 : decode (mC 260) 166 = .ok (.invokestatic 283, 3) := by decide +kernel
theorem d_260_169 : decode (mC 260) 169 = .ok (.ireturn, 1) := by decide +kernel
theorem d_260_0 : decode (mC 260) 0 = .ok (.iload_n 0, 1) := by decide +kernel
theorem d_260_1 : decode (mC 260) 1 = .ok (.tableswitch 214 37 62 #[143, 197, 214, 214, 214, 127, 119, 214, 123, 214, 131, 214, 214, 214, 214, 214, 214, 214, 214, 214, 214, 214, 214, 155, 183, 169], 119) := by decide +kernel
theorem d_260_144 : decode (mC 260) 144 = .ok (.iload_n 2, 1) := by decide +kernel
theorem d_260_145 : decode (mC 260) 145 = .ok (.ifCond .ne 7, 3) := by decide +kernel
theorem d_260_152 : decode (mC 260) 152 = .ok (.iload_n 1, 1) := by decide +kernel
theorem d_260_153 : decode (mC 260) 153 = .ok (.iload_n 2, 1) := by decide +kernel
theorem d_260_154 : decode (mC 260) 154 = .ok (.irem, 1) := by decide +kernel
theorem d_260_155 : decode (mC 260) 155 = .ok (.ireturn, 1) := by decide +kernel
theorem d_260_148 : decode (mC 260) 148 = .ok (.iconst 0, 1) := by decide +kernel
theorem d_260_149 : decode (mC 260) 149 = .ok (.goto 6, 3) := by decide +kernel
theorem d_260_198 : decode (mC 260) 198 = .ok (.iload_n 1, 1) := by decide +kernel
theorem d_260_199 : decode (mC 260) 199 = .ok (.ifCond .eq 11, 3) := by decide +kernel
theorem d_260_202 : decode (mC 260) 202 = .ok (.iload_n 2, 1) := by decide +kernel
theorem d_260_203 : decode (mC 260) 203 = .ok (.ifCond .eq 7, 3) := by decide +kernel
theorem d_260_206 : decode (mC 260) 206 = .ok (.iconst 1, 1) := by decide +kernel
theorem d_260_207 : decode (mC 260) 207 = .ok (.goto 4, 3) := by decide +kernel
theorem d_260_128 : decode (mC 260) 128 = .ok (.iload_n 1, 1) := by decide +kernel
theorem d_260_129 : decode (mC 260) 129 = .ok (.iload_n 2, 1) := by decide +kernel
theorem d_260_130 : decode (mC 260) 130 = .ok (.imul, 1) := by decide +kernel
theorem d_260_131 : decode (mC 260) 131 = .ok (.ireturn, 1) := by decide +kernel
theorem d_260_120 : decode (mC 260) 120 = .ok (.iload_n 1, 1) := by decide +kernel
theorem d_260_121 : decode (mC 260) 121 = .ok (.iload_n 2, 1) := by decide +kernel
theorem d_260_122 : decode (mC 260) 122 = .ok (.iadd, 1) := by decide +kernel
theorem d_260_123 : decode (mC 260) 123 = .ok (.ireturn, 1) := by decide +kernel
theorem d_260_124 : decode (mC 260) 124 = .ok (.iload_n 1, 1) := by decide +kernel
theorem d_260_125 : decode (mC 260) 125 = .ok (.iload_n 2, 1) := by decide +kernel
theorem d_260_126 : decode (mC 260) 126 = .ok (.isub, 1) := by decide +kernel
theorem d_260_127 : decode (mC 260) 127 = .ok (.ireturn, 1) := by decide +kernel
theorem d_260_132 : decode (mC 260) 132 = .ok (.iload_n 2, 1) := by decide +kernel
theorem d_260_133 : decode (mC 260) 133 = .ok (.ifCond .ne 7, 3) := by decide +kernel
theorem d_260_140 : decode (mC 260) 140 = .ok (.iload_n 1, 1) := by decide +kernel
theorem d_260_141 : decode (mC 260) 141 = .ok (.iload_n 2, 1) := by decide +kernel
theorem d_260_142 : decode (mC 260) 142 = .ok (.idiv, 1) := by decide +kernel
theorem d_260_143 : decode (mC 260) 143 = .ok (.ireturn, 1) := by decide +kernel
theorem d_260_136 : decode (mC 260) 136 = .ok (.iconst 0, 1) := by decide +kernel
theorem d_260_137 : decode (mC 260) 137 = .ok (.goto 6, 3) := by decide +kernel
theorem d_260_156 : decode (mC 260) 156 = .ok (.iload_n 1, 1) := by decide +kernel
theorem d_260_157 : decode (mC 260) 157 = .ok (.iload_n 2, 1) := by decide +kernel
theorem d_260_158 : decode (mC 260) 158 = .ok (.if_icmp .ge 7, 3) := by decide +kernel
theorem d_260_165 : decode (mC 260) 165 = .ok (.iconst 0, 1) := by decide +kernel
theorem d_260_161 : decode (mC 260) 161 = .ok (.iconst 1, 1) := by decide +kernel
theorem d_260_162 : decode (mC 260) 162 = .ok (.goto 4, 3) := by decide +kernel
theorem d_260_184 : decode (mC 260) 184 = .ok (.iload_n 1, 1) := by decide +kernel
theorem d_260_185 : decode (mC 260) 185 = .ok (.iload_n 2, 1) := by decide +kernel
theorem d_260_186 : decode (mC 260) 186 = .ok (.if_icmp .ne 7, 3) := by decide +kernel
theorem d_260_193 : decode (mC 260) 193 = .ok (.iconst 0, 1) := by decide +kernel
theorem d_260_189 : decode (mC 260) 189 = .ok (.iconst 1, 1) := by decide +kernel
theorem d_260_190 : decode (mC 260) 190 = .ok (.goto 4, 3) := by decide +kernel
theorem d_260_170 : decode (mC 260) 170 = .ok (.iload_n 1, 1) := by decide +kernel
theorem d_260_171 : decode (mC 260) 171 = .ok (.iload_n 2, 1) := by decide +kernel
theorem d_260_172 : decode (mC 260) 172 = .ok (.if_icmp .le 7, 3) := by decide +kernel
theorem d_260_179 : decode (mC 260) 179 = .ok (.iconst 0, 1) := by decide +kernel
theorem d_260_175 : decode (mC 260) 175 = .ok (.iconst 1, 1) := by decide +kernel
theorem d_260_176 : decode (mC 260) 176 = .ok (.goto 4, 3) := by decide +kernel
theorem ml_260 : mL 260 = 3 := by decide +kernel
theorem d_258_194 : decode (mC 258) 194 = .ok (.invokestatic 283, 3) := by decide +kernel
theorem sk_258_283 : SKc 258 283 259 1 := ⟨⟨List.mem_of_getElem? (i := 1752) (by decide +kernel), by decide +kernel⟩, List.mem_of_getElem? (i := 1753) (by decide +kernel), mo_259, m0_259⟩
theorem d_258_197 : decode (mC 258) 197 = .ok (.iastore, 1) := by decide +kernel
theorem d_258_198 : decode (mC 258) 198 = .ok (.goto 41, 3) := by decide +kernel
theorem d_258_239 : decode (mC 258) 239 = .ok (.iinc 5 1, 3) := by decide +kernel
theorem ml_258 : mL 258 = 6 := by decide +kernel
theorem d_258_242 : decode (mC 258) 242 = .ok (.goto (-159), 3) := by decide +kernel
theorem d_258_151 : decode (mC 258) 151 = .ok (.iastore, 1) := by decide +kernel
theorem d_258_152 : decode (mC 258) 152 = .ok (.iinc 4 1, 3) := by decide +kernel
theorem d_258_155 : decode (mC 258) 155 = .ok (.goto 84, 3) := by decide +kernel
theorem d_258_113 : decode (mC 258) 113 = .ok (.aload_n 0, 1) := by decide +kernel
theorem d_258_114 : decode (mC 258) 114 = .ok (.getfield 36, 3) := by decide +kernel
theorem fk_CordLoftModel_36 : FK 2 "CordLoftModel" 36 12 16 := ⟨⟨_, rfl, by decide, List.mem_of_getElem? (i := 1307) (by decide +kernel)⟩, rfl, by decide⟩
theorem cn_258 : (mN 258).cls = "CordLoftModel" := by decide +kernel
theorem ft_13_16 : finT 13 16 = some (113, 0) := by decide +kernel
theorem k_113 : kd0 113 = 20 := by decide +kernel
theorem l_113 : ln0 113 = 64 := by decide +kernel
theorem d_258_117 : decode (mC 258) 117 = .ok (.iload 4, 2) := by decide +kernel
theorem d_258_119 : decode (mC 258) 119 = .ok (.aload_n 0, 1) := by decide +kernel
theorem d_258_120 : decode (mC 258) 120 = .ok (.getfield 27, 3) := by decide +kernel
