theorem d_258_123 : decode (mC 258) 123 = .ok (.iload 5, 2) := by decide +kernel
theorem d_258_125 : decode (mC 258) 125 = .ok (.iaload, 1) := by decide +kernel
theorem d_258_126 : decode (mC 258) 126 = .ok (.ifCond .ne 13, 3) := by decide +kernel
theorem d_258_139 : decode (mC 258) 139 = .ok (.aload_n 0, 1) := by decide +kernel
theorem d_258_140 : decode (mC 258) 140 = .ok (.getfield 39, 3) := by decide +kernel
theorem fk_CordLoftModel_39 : FK 2 "CordLoftModel" 39 12 26 := ⟨⟨_, rfl, by decide, List.mem_of_getElem? (i := 1317) (by decide +kernel)⟩, rfl, by decide⟩
theorem ft_13_26 : finT 13 26 = some (114, 0) := by decide +kernel
theorem k_114 : kd0 114 = 20 := by decide +kernel
theorem l_114 : ln0 114 = 6 := by decide +kernel
theorem d_258_143 : decode (mC 258) 143 = .ok (.aload_n 0, 1) := by decide +kernel
theorem d_258_144 : decode (mC 258) 144 = .ok (.getfield 30, 3) := by decide +kernel
theorem d_258_147 : decode (mC 258) 147 = .ok (.iload 5, 2) := by decide +kernel
theorem d_258_149 : decode (mC 258) 149 = .ok (.iaload, 1) := by decide +kernel
theorem d_258_150 : decode (mC 258) 150 = .ok (.iaload, 1) := by decide +kernel
theorem d_258_129 : decode (mC 258) 129 = .ok (.aload_n 0, 1) := by decide +kernel
theorem d_258_130 : decode (mC 258) 130 = .ok (.getfield 30, 3) := by decide +kernel
theorem d_258_133 : decode (mC 258) 133 = .ok (.iload 5, 2) := by decide +kernel
theorem d_258_135 : decode (mC 258) 135 = .ok (.iaload, 1) := by decide +kernel
theorem d_258_136 : decode (mC 258) 136 = .ok (.goto 15, 3) := by decide +kernel
theorem d_258_83 : decode (mC 258) 83 = .ok (.iload 5, 2) := by decide +kernel
theorem d_258_85 : decode (mC 258) 85 = .ok (.aload_n 0, 1) := by decide +kernel
theorem d_258_86 : decode (mC 258) 86 = .ok (.getfield 296, 3) := by decide +kernel
theorem d_258_89 : decode (mC 258) 89 = .ok (.if_icmp .ge 156, 3) := by decide +kernel
theorem d_258_92 : decode (mC 258) 92 = .ok (.aload_n 0, 1) := by decide +kernel
theorem d_258_93 : decode (mC 258) 93 = .ok (.getfield 27, 3) := by decide +kernel
theorem d_258_96 : decode (mC 258) 96 = .ok (.iload 5, 2) := by decide +kernel
theorem d_258_98 : decode (mC 258) 98 = .ok (.iaload, 1) := by decide +kernel
theorem d_258_99 : decode (mC 258) 99 = .ok (.ifCond .eq 14, 3) := by decide +kernel
theorem d_258_102 : decode (mC 258) 102 = .ok (.aload_n 0, 1) := by decide +kernel
theorem d_258_103 : decode (mC 258) 103 = .ok (.getfield 27, 3) := by decide +kernel
theorem d_258_106 : decode (mC 258) 106 = .ok (.iload 5, 2) := by decide +kernel
theorem d_258_108 : decode (mC 258) 108 = .ok (.iaload, 1) := by decide +kernel
theorem d_258_109 : decode (mC 258) 109 = .ok (.iconst 1, 1) := by decide +kernel
theorem d_258_110 : decode (mC 258) 110 = .ok (.if_icmp .ne 48, 3) := by decide +kernel
theorem d_258_158 : decode (mC 258) 158 = .ok (.aload_n 0, 1) := by decide +kernel
theorem d_258_159 : decode (mC 258) 159 = .ok (.getfield 27, 3) := by decide +kernel
theorem d_258_162 : decode (mC 258) 162 = .ok (.iload 5, 2) := by decide +kernel
theorem d_258_164 : decode (mC 258) 164 = .ok (.iaload, 1) := by decide +kernel
theorem d_258_165 : decode (mC 258) 165 = .ok (.iconst 2, 1) := by decide +kernel
theorem d_258_166 : decode (mC 258) 166 = .ok (.if_icmp .ne 35, 3) := by decide +kernel
theorem d_258_201 : decode (mC 258) 201 = .ok (.iinc 4 (-1), 3) := by decide +kernel
theorem d_258_204 : decode (mC 258) 204 = .ok (.aload_n 0, 1) := by decide +kernel
theorem d_258_205 : decode (mC 258) 205 = .ok (.getfield 36, 3) := by decide +kernel
theorem d_258_208 : decode (mC 258) 208 = .ok (.iload 4, 2) := by decide +kernel
theorem d_258_210 : decode (mC 258) 210 = .ok (.iconst 1, 1) := by decide +kernel
theorem d_258_211 : decode (mC 258) 211 = .ok (.isub, 1) := by decide +kernel
theorem d_258_212 : decode (mC 258) 212 = .ok (.aload_n 0, 1) := by decide +kernel
theorem d_258_213 : decode (mC 258) 213 = .ok (.getfield 30, 3) := by decide +kernel
theorem d_258_216 : decode (mC 258) 216 = .ok (.iload 5, 2) := by decide +kernel
theorem d_258_218 : decode (mC 258) 218 = .ok (.iaload, 1) := by decide +kernel
theorem d_258_219 : decode (mC 258) 219 = .ok (.aload_n 0, 1) := by decide +kernel
theorem d_258_220 : decode (mC 258) 220 = .ok (.getfield 36, 3) := by decide +kernel
theorem d_258_223 : decode (mC 258) 223 = .ok (.iload 4, 2) := by decide +kernel
theorem d_258_225 : decode (mC 258) 225 = .ok (.iconst 1, 1) := by decide +kernel
theorem d_258_226 : decode (mC 258) 226 = .ok (.isub, 1) := by decide +kernel
theorem d_258_227 : decode (mC 258) 227 = .ok (.iaload, 1) := by decide +kernel
theorem d_258_228 : decode (mC 258) 228 = .ok (.aload_n 0, 1) := by decide +kernel
theorem d_258_229 : decode (mC 258) 229 = .ok (.getfield 36, 3) := by decide +kernel
theorem d_258_232 : decode (mC 258) 232 = .ok (.iload 4, 2) := by decide +kernel
theorem d_258_234 : decode (mC 258) 234 = .ok (.iaload, 1) := by decide +kernel
theorem d_258_235 : decode (mC 258) 235 = .ok (.invokestatic 299, 3) := by decide +kernel
theorem mo_260 : MOK 260 := ⟨List.mem_of_getElem? (i := 1757) (by decide +kernel), by decide +kernel, ⟨by decide +kernel, by decide +kernel⟩, List.mem_of_getElem? (i := 100) (by decide +kernel), by decide +kernel⟩
theorem m0_260 : M0K 260 := ⟨by decide +kernel, by decide +kernel⟩
theorem sk_258_299 : SKc 258 299 260 3 := ⟨⟨List.mem_of_getElem? (i := 1755) (by decide +kernel), by decide +kernel⟩, List.mem_of_getElem? (i := 1756) (by decide +kernel), mo_260, m0_260⟩
theorem d_258_238 : decode (mC 258) 238 = .ok (.iastore, 1) := by decide +kernel
theorem d_258_169 : decode (mC 258) 169 = .ok (.aload_n 0, 1) := by decide +kernel
theorem d_258_170 : decode (mC 258) 170 = .ok (.getfield 36, 3) := by decide +kernel
theorem d_258_173 : decode (mC 258) 173 = .ok (.iload 4, 2) := by decide +kernel
theorem d_258_175 : decode (mC 258) 175 = .ok (.iconst 1, 1) := by decide +kernel
theorem d_258_176 : decode (mC 258) 176 = .ok (.isub, 1) := by decide +kernel
theorem d_258_177 : decode (mC 258) 177 = .ok (.aload_n 0, 1) := by decide +kernel
theorem d_258_178 : decode (mC 258) 178 = .ok (.getfield 36, 3) := by decide +kernel
theorem d_258_181 : decode (mC 258) 181 = .ok (.iload 4, 2) := by decide +kernel
theorem d_258_183 : decode (mC 258) 183 = .ok (.iconst 1, 1) := by decide +kernel
theorem d_258_184 : decode (mC 258) 184 = .ok (.isub, 1) := by decide +kernel
theorem d_258_185 : decode (mC 258) 185 = .ok (.iaload, 1) := by decide +kernel
theorem d_258_186 : decode (mC 258) 186 = .ok (.ifCond .ne 7, 3) := by decide +kernel
theorem d_258_193 : decode (mC 258) 193 = .ok (.iconst 0, 1) := by decide +kernel
theorem d_258_189 : decode (mC 258) 189 = .ok (.iconst 1, 1) := by decide +kernel
theorem d_258_190 : decode (mC 258) 190 = .ok (.goto 4, 3) := by decide +kernel
theorem d_258_0 : decode (mC 258) 0 = .ok (.aload_n 0, 1) := by decide +kernel
theorem d_258_1 : decode (mC 258) 1 = .ok (.getfield 287, 3) := by decide +kernel
theorem fk_CordLoftModel_287 : FK 3 "CordLoftModel" 287 12 25 := ⟨⟨_, rfl, by decide, List.mem_of_getElem? (i := 1316) (by decide +kernel)⟩, rfl, by decide⟩
theorem d_258_4 : decode (mC 258) 4 = .ok (.ifCond .ne 5, 3) := by decide +kernel
theorem d_258_9 : decode (mC 258) 9 = .ok (.aload_n 0, 1) := by decide +kernel
theorem d_258_10 : decode (mC 258) 10 = .ok (.getfield 39, 3) := by decide +kernel
theorem d_258_13 : decode (mC 258) 13 = .ok (.iconst 0, 1) := by decide +kernel
theorem d_258_14 : decode (mC 258) 14 = .ok (.iload_n 2, 1) := by decide +kernel
theorem d_258_15 : decode (mC 258) 15 = .ok (.iload_n 1, 1) := by decide +kernel
theorem d_258_16 : decode (mC 258) 16 = .ok (.ishr, 1) := by decide +kernel
theorem d_258_17 : decode (mC 258) 17 = .ok (.iconst 1, 1) := by decide +kernel
theorem d_258_18 : decode (mC 258) 18 = .ok (.iand, 1) := by decide +kernel
theorem d_258_19 : decode (mC 258) 19 = .ok (.iastore, 1) := by decide +kernel
theorem d_258_20 : decode (mC 258) 20 = .ok (.aload_n 0, 1) := by decide +kernel
theorem d_258_21 : decode (mC 258) 21 = .ok (.getfield 39, 3) := by decide +kernel
theorem d_258_24 : decode (mC 258) 24 = .ok (.iconst 1, 1) := by decide +kernel
theorem d_258_25 : decode (mC 258) 25 = .ok (.iload_n 2, 1) := by decide +kernel
theorem d_258_26 : decode (mC 258) 26 = .ok (.aload_n 0, 1) := by decide +kernel
theorem d_258_27 : decode (mC 258) 27 = .ok (.getfield 57, 3) := by decide +kernel
theorem d_258_30 : decode (mC 258) 30 = .ok (.iload_n 1, 1) := by decide +kernel
theorem d_258_31 : decode (mC 258) 31 = .ok (.iaload, 1) := by decide +kernel
theorem d_258_32 : decode (mC 258) 32 = .ok (.iand, 1) := by decide +kernel
theorem d_258_33 : decode (mC 258) 33 = .ok (.invokestatic 290, 3) := by decide +kernel
theorem sk_258_290 : SKc 258 290 250 1 := ⟨⟨List.mem_of_getElem? (i := 1717) (by decide +kernel), by decide +kernel⟩, List.mem_of_getElem? (i := 1718) (by decide +kernel), mo_250, m0_250⟩
theorem d_258_36 : decode (mC 258) 36 = .ok (.iastore, 1) := by decide +kernel
theorem d_258_37 : decode (mC 258) 37 = .ok (.aload_n 0, 1) := by decide +kernel
theorem d_258_38 : decode (mC 258) 38 = .ok (.getfield 39, 3) := by decide +kernel
theorem d_258_41 : decode (mC 258) 41 = .ok (.iconst 2, 1) := by decide +kernel
theorem d_258_42 : decode (mC 258) 42 = .ok (.aload_n 0, 1) := by decide +kernel
theorem d_258_43 : decode (mC 258) 43 = .ok (.iload_n 1, 1) := by decide +kernel
theorem d_258_44 : decode (mC 258) 44 = .ok (.invokevirtual 293, 3) := by decide +kernel
theorem vk_258_293 : VK 258 293 244 1 12 := ⟨⟨List.mem_of_getElem? (i := 1693) (by decide +kernel), by decide +kernel⟩, List.mem_of_getElem? (i := 1695) (by decide +kernel), mo_244, m0_244, _, rfl, List.mem_of_getElem? (i := 62) (by decide +kernel), by decide⟩
theorem d_258_47 : decode (mC 258) 47 = .ok (.invokestatic 290, 3) := by decide +kernel
theorem d_258_50 : decode (mC 258) 50 = .ok (.iastore, 1) := by decide +kernel
theorem d_258_51 : decode (mC 258) 51 = .ok (.aload_n 0, 1) := by decide +kernel
theorem d_258_52 : decode (mC 258) 52 = .ok (.getfield 39, 3) := by decide +kernel
theorem d_258_55 : decode (mC 258) 55 = .ok (.iconst 3, 1) := by decide +kernel
theorem d_258_56 : decode (mC 258) 56 = .ok (.iload_n 1, 1) := by decide +kernel
theorem d_258_57 : decode (mC 258) 57 = .ok (.iastore, 1) := by decide +kernel
theorem d_258_58 : decode (mC 258) 58 = .ok (.aload_n 0, 1) := by decide +kernel
theorem d_258_59 : decode (mC 258) 59 = .ok (.getfield 39, 3) := by decide +kernel
theorem d_258_62 : decode (mC 258) 62 = .ok (.iconst 4, 1) := by decide +kernel
theorem d_258_63 : decode (mC 258) 63 = .ok (.aload_n 0, 1) := by decide +kernel
theorem d_258_64 : decode (mC 258) 64 = .ok (.getfield 54, 3) := by decide +kernel
theorem d_258_67 : decode (mC 258) 67 = .ok (.iload_n 1, 1) := by decide +kernel
theorem d_258_68 : decode (mC 258) 68 = .ok (.iaload, 1) := by decide +kernel
theorem d_258_69 : decode (mC 258) 69 = .ok (.iastore, 1) := by decide +kernel
theorem d_258_70 : decode (mC 258) 70 = .ok (.aload_n 0, 1) := by decide +kernel
theorem d_258_71 : decode (mC 258) 71 = .ok (.getfield 39, 3) := by decide +kernel
theorem d_258_74 : decode (mC 258) 74 = .ok (.iconst 5, 1) := by decide +kernel
theorem d_258_75 : decode (mC 258) 75 = .ok (.iload_n 3, 1) := by decide +kernel
theorem d_258_76 : decode (mC 258) 76 = .ok (.iastore, 1) := by decide +kernel
theorem d_258_77 : decode (mC 258) 77 = .ok (.iconst 0, 1) := by decide +kernel
theorem d_258_78 : decode (mC 258) 78 = .ok (.istore 4, 2) := by decide +kernel
theorem d_258_80 : decode (mC 258) 80 = .ok (.iconst 0, 1) := by decide +kernel
theorem d_258_81 : decode (mC 258) 81 = .ok (.istore 5, 2) := by decide +kernel
theorem d_258_245 : decode (mC 258) 245 = .ok (.aload_n 0, 1) := by decide +kernel
theorem d_258_246 : decode (mC 258) 246 = .ok (.getfield 36, 3) := by decide +kernel
theorem d_258_249 : decode (mC 258) 249 = .ok (.iconst 0, 1) := by decide +kernel
theorem d_258_250 : decode (mC 258) 250 = .ok (.iaload, 1) := by decide +kernel
theorem d_258_251 : decode (mC 258) 251 = .ok (.ifCond .le 7, 3) := by decide +kernel
theorem d_258_258 : decode (mC 258) 258 = .ok (.iconst 0, 1) := by decide +kernel
theorem d_258_259 : decode (mC 258) 259 = .ok (.ireturn, 1) := by decide +kernel
theorem mr_258 : mR 258 = some .boolean := by decide +kernel
theorem d_258_254 : decode (mC 258) 254 = .ok (.iconst 1, 1) := by decide +kernel
theorem d_258_255 : decode (mC 258) 255 = .ok (.goto 4, 3) := by decide +kernel
theorem d_258_7 : decode (mC 258) 7 = .ok (.iconst 0, 1) := by decide +kernel
theorem d_258_8 : decode (mC 258) 8 = .ok (.ireturn, 1) := by decide +kernel
theorem d_257_5 : decode (mC 257) 5 = .ok (.iload 4, 2) := by decide +kernel
theorem d_257_7 : decode (mC 257) 7 = .ok (.aload_n 0, 1) := by decide +kernel
theorem d_257_8 : decode (mC 257) 8 = .ok (.getfield 303, 3) := by decide +kernel
theorem cn_257 : (mN 257).cls = "CordLoftModel" := by decide +kernel
theorem d_257_11 : decode (mC 257) 11 = .ok (.if_icmp .ge 26, 3) := by decide +kernel
theorem d_257_14 : decode (mC 257) 14 = .ok (.iload_n 3, 1) := by decide +kernel
theorem d_257_15 : decode (mC 257) 15 = .ok (.aload_n 0, 1) := by decide +kernel
theorem d_257_16 : decode (mC 257) 16 = .ok (.iload 4, 2) := by decide +kernel
theorem d_257_18 : decode (mC 257) 18 = .ok (.iload_n 1, 1) := by decide +kernel
theorem d_257_19 : decode (mC 257) 19 = .ok (.iload_n 2, 1) := by decide +kernel
theorem d_257_20 : decode (mC 257) 20 = .ok (.invokevirtual 306, 3) := by decide +kernel
theorem mo_258 : MOK 258 := ⟨List.mem_of_getElem? (i := 1751) (by decide +kernel), by decide +kernel, ⟨by decide +kernel, by decide +kernel⟩, List.mem_of_getElem? (i := 100) (by decide +kernel), by decide +kernel⟩
theorem m0_258 : M0K 258 := ⟨by decide +kernel, by decide +kernel⟩
theorem vk_257_306 : VK 257 306 258 3 12 := ⟨⟨List.mem_of_getElem? (i := 1748) (by decide +kernel), by decide +kernel⟩, List.mem_of_getElem? (i := 1750) (by decide +kernel), mo_258, m0_258, _, rfl, List.mem_of_getElem? (i := 69) (by decide +kernel), by decide⟩
theorem d_257_23 : decode (mC 257) 23 = .ok (.invokestatic 283, 3) := by decide +kernel
theorem sk_257_283 : SKc 257 283 259 1 := ⟨⟨List.mem_of_getElem? (i := 1752) (by decide +kernel), by decide +kernel⟩, List.mem_of_getElem? (i := 1753) (by decide +kernel), mo_259, m0_259⟩
theorem d_257_26 : decode (mC 257) 26 = .ok (.iload 4, 2) := by decide +kernel
theorem d_257_28 : decode (mC 257) 28 = .ok (.ishl, 1) := by decide +kernel
theorem d_257_29 : decode (mC 257) 29 = .ok (.ixor, 1) := by decide +kernel
theorem d_257_30 : decode (mC 257) 30 = .ok (.istore_n 3, 1) := by decide +kernel
theorem ml_257 : mL 257 = 5 := by decide +kernel
theorem d_257_31 : decode (mC 257) 31 = .ok (.iinc 4 1, 3) := by decide +kernel
theorem d_257_34 : decode (mC 257) 34 = .ok (.goto (-29), 3) := by decide +kernel
theorem d_257_0 : decode (mC 257) 0 = .ok (.iload_n 1, 1) := by decide +kernel
theorem d_257_1 : decode (mC 257) 1 = .ok (.istore_n 3, 1) := by decide +kernel
theorem d_257_2 : decode (mC 257) 2 = .ok (.iconst 0, 1) := by decide +kernel
theorem d_257_3 : decode (mC 257) 3 = .ok (.istore 4, 2) := by decide +kernel
theorem d_257_37 : decode (mC 257) 37 = .ok (.iload_n 3, 1) := by decide +kernel
theorem d_257_38 : decode (mC 257) 38 = .ok (.ireturn, 1) := by decide +kernel
theorem mr_257 : mR 257 = some .int := by decide +kernel
theorem d_256_0 : decode (mC 256) 0 = .ok (.aload_n 0, 1) := by decide +kernel
theorem d_256_1 : decode (mC 256) 1 = .ok (.iload_n 1, 1) := by decide +kernel
theorem d_256_2 : decode (mC 256) 2 = .ok (.iload_n 2, 1) := by decide +kernel
theorem d_256_3 : decode (mC 256) 3 = .ok (.invokevirtual 417, 3) := by decide +kernel
theorem mo_257 : MOK 257 := ⟨List.mem_of_getElem? (i := 1747) (by decide +kernel), by decide +kernel, ⟨by decide +kernel, by decide +kernel⟩, List.mem_of_getElem? (i := 100) (by decide +kernel), by decide +kernel⟩
theorem m0_257 : M0K 257 := ⟨by decide +kernel, by decide +kernel⟩
theorem vk_256_417 : VK 256 417 257 2 12 := ⟨⟨List.mem_of_getElem? (i := 1744) (by decide +kernel), by decide +kernel⟩, List.mem_of_getElem? (i := 1746) (by decide +kernel), mo_257, m0_257, _, rfl, List.mem_of_getElem? (i := 68) (by decide +kernel), by decide⟩
theorem d_256_6 : decode (mC 256) 6 = .ok (.istore_n 3, 1) := by decide +kernel
theorem ml_256 : mL 256 = 4 := by decide +kernel
theorem d_256_7 : decode (mC 256) 7 = .ok (.aload_n 0, 1) := by decide +kernel
theorem d_256_8 : decode (mC 256) 8 = .ok (.aload_n 0, 1) := by decide +kernel
theorem d_256_9 : decode (mC 256) 9 = .ok (.getfield 420, 3) := by decide +kernel
theorem fk_CordLoftModel_420 : FK 0 "CordLoftModel" 420 12 54 := ⟨⟨_, rfl, by decide, List.mem_of_getElem? (i := 1345) (by decide +kernel)⟩, rfl, by decide⟩
theorem cn_256 : (mN 256).cls = "CordLoftModel" := by decide +kernel
theorem d_256_12 : decode (mC 256) 12 = .ok (.sipush 137, 3) := by decide +kernel
theorem d_256_15 : decode (mC 256) 15 = .ok (.imul, 1) := by decide +kernel
theorem d_256_16 : decode (mC 256) 16 = .ok (.bipush 71, 2) := by decide +kernel
theorem d_256_18 : decode (mC 256) 18 = .ok (.iadd, 1) := by decide +kernel
theorem d_256_19 : decode (mC 256) 19 = .ok (.sipush 1000, 3) := by decide +kernel
theorem d_256_22 : decode (mC 256) 22 = .ok (.irem, 1) := by decide +kernel
theorem d_256_23 : decode (mC 256) 23 = .ok (.putfield 420, 3) := by decide +kernel
theorem fp_CordLoftModel_420 : FP 0 "CordLoftModel" 420 12 54 := ⟨⟨_, rfl, by decide, List.mem_of_getElem? (i := 1345) (by decide +kernel), rfl⟩, rfl, by decide, by decide +kernel⟩
theorem d_256_26 : decode (mC 256) 26 = .ok (.aload_n 0, 1) := by decide +kernel
theorem d_256_27 : decode (mC 256) 27 = .ok (.getfield 420, 3) := by decide +kernel
theorem d_256_30 : decode (mC 256) 30 = .ok (.bipush 100, 2) := by decide +kernel
theorem d_256_32 : decode (mC 256) 32 = .ok (.irem, 1) := by decide +kernel
theorem d_256_33 : decode (mC 256) 33 = .ok (.aload_n 0, 1) := by decide +kernel
theorem d_256_34 : decode (mC 256) 34 = .ok (.getfield 378, 3) := by decide +kernel
theorem fk_CordLoftModel_378 : FK 0 "CordLoftModel" 378 12 45 := ⟨⟨_, rfl, by decide, List.mem_of_getElem? (i := 1336) (by decide +kernel)⟩, rfl, by decide⟩
theorem d_256_37 : decode (mC 256) 37 = .ok (.if_icmp .ge 26, 3) := by decide +kernel
theorem d_256_63 : decode (mC 256) 63 = .ok (.iload_n 3, 1) := by decide +kernel
theorem d_256_64 : decode (mC 256) 64 = .ok (.ireturn, 1) := by decide +kernel
theorem mr_256 : mR 256 = some .int := by decide +kernel
theorem d_256_40 : decode (mC 256) 40 = .ok (.aload_n 0, 1) := by decide +kernel
theorem d_256_41 : decode (mC 256) 41 = .ok (.getfield 303, 3) := by decide +kernel
theorem d_256_44 : decode (mC 256) 44 = .ok (.ifCond .le 19, 3) := by decide +kernel
theorem d_256_47 : decode (mC 256) 47 = .ok (.iload_n 3, 1) := by decide +kernel
theorem d_256_48 : decode (mC 256) 48 = .ok (.iconst 1, 1) := by decide +kernel
theorem d_256_49 : decode (mC 256) 49 = .ok (.aload_n 0, 1) := by decide +kernel
theorem d_256_50 : decode (mC 256) 50 = .ok (.getfield 420, 3) := by decide +kernel
theorem d_256_53 : decode (mC 256) 53 = .ok (.aload_n 0, 1) := by decide +kernel
theorem d_256_54 : decode (mC 256) 54 = .ok (.getfield 303, 3) := by decide +kernel
theorem d_256_57 : decode (mC 256) 57 = .ok (.irem, 1) := by decide +kernel
theorem d_256_58 : decode (mC 256) 58 = .ok (.ishl, 1) := by decide +kernel
theorem d_256_59 : decode (mC 256) 59 = .ok (.ixor, 1) := by decide +kernel
theorem d_256_60 : decode (mC 256) 60 = .ok (.goto 4, 3) := by decide +kernel
theorem d_255_0 : decode (mC 255) 0 = .ok (.aload_n 0, 1) := by decide +kernel
theorem d_255_1 : decode (mC 255) 1 = .ok (.getfield 66, 3) := by decide +kernel
theorem cn_255 : (mN 255).cls = "CordLoftModel" := by decide +kernel
theorem d_255_4 : decode (mC 255) 4 = .ok (.iconst 3, 1) := by decide +kernel
theorem d_255_5 : decode (mC 255) 5 = .ok (.iaload, 1) := by decide +kernel
theorem d_255_6 : decode (mC 255) 6 = .ok (.sipush 999, 3) := by decide +kernel
theorem d_255_9 : decode (mC 255) 9 = .ok (.if_icmp .ne 5, 3) := by decide +kernel
theorem d_255_14 : decode (mC 255) 14 = .ok (.aload_n 0, 1) := by decide +kernel
theorem d_255_15 : decode (mC 255) 15 = .ok (.invokevirtual 411, 3) := by decide +kernel
theorem vk_255_411 : VK 255 411 251 0 12 := ⟨⟨List.mem_of_getElem? (i := 1720) (by decide +kernel), by decide +kernel⟩, List.mem_of_getElem? (i := 1722) (by decide +kernel), mo_251, m0_251, _, rfl, List.mem_of_getElem? (i := 65) (by decide +kernel), by decide⟩
theorem d_255_18 : decode (mC 255) 18 = .ok (.aload_n 0, 1) := by decide +kernel
theorem d_255_19 : decode (mC 255) 19 = .ok (.aload_n 0, 1) := by decide +kernel
theorem d_255_20 : decode (mC 255) 20 = .ok (.getfield 66, 3) := by decide +kernel
theorem d_255_23 : decode (mC 255) 23 = .ok (.iconst 4, 1) := by decide +kernel
theorem d_255_24 : decode (mC 255) 24 = .ok (.iaload, 1) := by decide +kernel
theorem d_255_25 : decode (mC 255) 25 = .ok (.putfield 420, 3) := by decide +kernel
theorem d_255_28 : decode (mC 255) 28 = .ok (.aload_n 0, 1) := by decide +kernel
theorem d_255_29 : decode (mC 255) 29 = .ok (.getfield 66, 3) := by decide +kernel
theorem d_255_32 : decode (mC 255) 32 = .ok (.iconst 0, 1) := by decide +kernel
theorem d_255_33 : decode (mC 255) 33 = .ok (.aload_n 0, 1) := by decide +kernel
theorem d_255_34 : decode (mC 255) 34 = .ok (.aload_n 0, 1) := by decide +kernel
theorem d_255_35 : decode (mC 255) 35 = .ok (.getfield 66, 3) := by decide +kernel
theorem d_255_38 : decode (mC 255) 38 = .ok (.iconst 0, 1) := by decide +kernel
theorem d_255_39 : decode (mC 255) 39 = .ok (.iaload, 1) := by decide +kernel
theorem d_255_40 : decode (mC 255) 40 = .ok (.aload_n 0, 1) := by decide +kernel
theorem d_255_41 : decode (mC 255) 41 = .ok (.getfield 66, 3) := by decide +kernel
theorem d_255_44 : decode (mC 255) 44 = .ok (.iconst 3, 1) := by decide +kernel
theorem d_255_45 : decode (mC 255) 45 = .ok (.iaload, 1) := by decide +kernel
theorem d_255_46 : decode (mC 255) 46 = .ok (.invokevirtual 423, 3) := by decide +kernel
theorem mo_256 : MOK 256 := ⟨List.mem_of_getElem? (i := 1743) (by decide +kernel), by decide +kernel, ⟨by decide +kernel, by decide +kernel⟩, List.mem_of_getElem? (i := 100) (by decide +kernel), by decide +kernel⟩
theorem m0_256 : M0K 256 := ⟨by decide +kernel, by decide +kernel⟩
theorem vk_255_423 : VK 255 423 256 2 12 := ⟨⟨List.mem_of_getElem? (i := 1740) (by decide +kernel), by decide +kernel⟩, List.mem_of_getElem? (i := 1742) (by decide +kernel), mo_256, m0_256, _, rfl, List.mem_of_getElem? (i := 67) (by decide +kernel), by decide⟩
theorem d_255_49 : decode (mC 255) 49 = .ok (.iastore, 1) := by decide +kernel
theorem d_255_50 : decode (mC 255) 50 = .ok (.aload_n 0, 1) := by decide +kernel
theorem d_255_51 : decode (mC 255) 51 = .ok (.getfield 66, 3) := by decide +kernel
theorem d_255_54 : decode (mC 255) 54 = .ok (.iconst 4, 1) := by decide +kernel
theorem d_255_55 : decode (mC 255) 55 = .ok (.aload_n 0, 1) := by decide +kernel
theorem d_255_56 : decode (mC 255) 56 = .ok (.getfield 420, 3) := by decide +kernel
theorem d_255_59 : decode (mC 255) 59 = .ok (.iastore, 1) := by decide +kernel
theorem d_255_60 : decode (mC 255) 60 = .ok (.aload_n 0, 1) := by decide +kernel
theorem d_255_61 : decode (mC 255) 61 = .ok (.getfield 66, 3) := by decide +kernel
theorem d_255_64 : decode (mC 255) 64 = .ok (.iconst 3, 1) := by decide +kernel
theorem d_255_65 : decode (mC 255) 65 = .ok (.dup2, 1) := by decide +kernel
theorem d_255_66 : decode (mC 255) 66 = .ok (.iaload, 1) := by decide +kernel
theorem d_255_67 : decode (mC 255) 67 = .ok (.iconst 1, 1) := by decide +kernel
theorem d_255_68 : decode (mC 255) 68 = .ok (.iadd, 1) := by decide +kernel
theorem d_255_69 : decode (mC 255) 69 = .ok (.iastore, 1) := by decide +kernel
theorem d_255_70 : decode (mC 255) 70 = .ok (.aload_n 0, 1) := by decide +kernel
theorem d_255_71 : decode (mC 255) 71 = .ok (.getfield 66, 3) := by decide +kernel
theorem d_255_74 : decode (mC 255) 74 = .ok (.iconst 0, 1) := by decide +kernel
theorem d_255_75 : decode (mC 255) 75 = .ok (.iaload, 1) := by decide +kernel
theorem d_255_76 : decode (mC 255) 76 = .ok (.ireturn, 1) := by decide +kernel
theorem mr_255 : mR 255 = some .int := by decide +kernel
theorem d_255_12 : decode (mC 255) 12 = .ok (.iconst (-1), 1) := by decide +kernel
theorem d_255_13 : decode (mC 255) 13 = .ok (.ireturn, 1) := by decide +kernel
theorem ml_255 : mL 255 = 1 := by decide +kernel
theorem d_262_2 : decode (mC 262) 2 = .ok (.iload_n 2, 1) := by decide +kernel
theorem d_262_3 : decode (mC 262) 3 = .ok (.iconst 5, 1) := by decide +kernel
theorem d_262_4 : decode (mC 262) 4 = .ok (.if_icmp .ge 39, 3) := by decide +kernel
theorem d_262_7 : decode (mC 262) 7 = .ok (.aload_n 0, 1) := by decide +kernel
theorem d_262_8 : decode (mC 262) 8 = .ok (.getfield 69, 3) := by decide +kernel
theorem cn_262 : (mN 262).cls = "CordLoftModel" := by decide +kernel
theorem d_262_11 : decode (mC 262) 11 = .ok (.iload_n 1, 1) := by decide +kernel
theorem d_262_12 : decode (mC 262) 12 = .ok (.iload_n 2, 1) := by decide +kernel
theorem d_262_13 : decode (mC 262) 13 = .ok (.iadd, 1) := by decide +kernel
theorem d_262_14 : decode (mC 262) 14 = .ok (.iaload, 1) := by decide +kernel
theorem d_262_15 : decode (mC 262) 15 = .ok (.istore_n 3, 1) := by decide +kernel
theorem ml_262 : mL 262 = 4 := by decide +kernel
theorem d_262_16 : decode (mC 262) 16 = .ok (.aload_n 0, 1) := by decide +kernel
theorem d_262_17 : decode (mC 262) 17 = .ok (.getfield 69, 3) := by decide +kernel
theorem d_262_20 : decode (mC 262) 20 = .ok (.iload_n 1, 1) := by decide +kernel
theorem d_262_21 : decode (mC 262) 21 = .ok (.iload_n 2, 1) := by decide +kernel
theorem d_262_22 : decode (mC 262) 22 = .ok (.iadd, 1) := by decide +kernel
theorem d_262_23 : decode (mC 262) 23 = .ok (.aload_n 0, 1) := by decide +kernel
theorem d_262_24 : decode (mC 262) 24 = .ok (.getfield 66, 3) := by decide +kernel
theorem d_262_27 : decode (mC 262) 27 = .ok (.iload_n 2, 1) := by decide +kernel
theorem d_262_28 : decode (mC 262) 28 = .ok (.iaload, 1) := by decide +kernel
theorem d_262_29 : decode (mC 262) 29 = .ok (.iastore, 1) := by decide +kernel
theorem d_262_30 : decode (mC 262) 30 = .ok (.aload_n 0, 1) := by decide +kernel
theorem d_262_31 : decode (mC 262) 31 = .ok (.getfield 66, 3) := by decide +kernel
theorem d_262_34 : decode (mC 262) 34 = .ok (.iload_n 2, 1) := by decide +kernel
theorem d_262_35 : decode (mC 262) 35 = .ok (.iload_n 3, 1) := by decide +kernel
theorem d_262_36 : decode (mC 262) 36 = .ok (.iastore, 1) := by decide +kernel
theorem d_262_37 : decode (mC 262) 37 = .ok (.iinc 2 1, 3) := by decide +kernel
theorem d_262_40 : decode (mC 262) 40 = .ok (.goto (-38), 3) := by decide +kernel
theorem d_262_0 : decode (mC 262) 0 = .ok (.iconst 0, 1) := by decide +kernel
theorem d_262_1 : decode (mC 262) 1 = .ok (.istore_n 2, 1) := by decide +kernel
theorem d_262_43 : decode (mC 262) 43 = .ok (.return_, 1) := by decide +kernel
theorem mr_262 : mR 262 = none := by decide +kernel
theorem d_261_0 : decode (mC 261) 0 = .ok (.aload_n 0, 1) := by decide +kernel
theorem d_261_1 : decode (mC 261) 1 = .ok (.getfield 387, 3) := by decide +kernel
theorem cn_261 : (mN 261).cls = "CordLoftModel" := by decide +kernel
theorem d_261_4 : decode (mC 261) 4 = .ok (.ifCond .ne 5, 3) := by decide +kernel
theorem d_261_9 : decode (mC 261) 9 = .ok (.aload_n 0, 1) := by decide +kernel
theorem d_261_10 : decode (mC 261) 10 = .ok (.dup, 1) := by decide +kernel
theorem d_261_11 : decode (mC 261) 11 = .ok (.getfield 387, 3) := by decide +kernel
theorem d_261_14 : decode (mC 261) 14 = .ok (.iconst 1, 1) := by decide +kernel
theorem d_261_15 : decode (mC 261) 15 = .ok (.isub, 1) := by decide +kernel
theorem d_261_16 : decode (mC 261) 16 = .ok (.putfield 387, 3) := by decide +kernel
theorem d_261_19 : decode (mC 261) 19 = .ok (.aload_n 0, 1) := by decide +kernel
theorem d_261_20 : decode (mC 261) 20 = .ok (.dup, 1) := by decide +kernel
theorem d_261_21 : decode (mC 261) 21 = .ok (.getfield 390, 3) := by decide +kernel
theorem fk_CordLoftModel_390 : FK 0 "CordLoftModel" 390 12 53 := ⟨⟨_, rfl, by decide, List.mem_of_getElem? (i := 1344) (by decide +kernel)⟩, rfl, by decide⟩
theorem d_261_24 : decode (mC 261) 24 = .ok (.iconst 1, 1) := by decide +kernel
theorem d_261_25 : decode (mC 261) 25 = .ok (.iadd, 1) := by decide +kernel
theorem d_261_26 : decode (mC 261) 26 = .ok (.putfield 390, 3) := by decide +kernel
theorem d_261_29 : decode (mC 261) 29 = .ok (.aload_n 0, 1) := by decide +kernel
theorem d_261_30 : decode (mC 261) 30 = .ok (.iconst 5, 1) := by decide +kernel
theorem d_261_31 : decode (mC 261) 31 = .ok (.aload_n 0, 1) := by decide +kernel
theorem d_261_32 : decode (mC 261) 32 = .ok (.getfield 387, 3) := by decide +kernel
theorem d_261_35 : decode (mC 261) 35 = .ok (.imul, 1) := by decide +kernel
theorem d_261_36 : decode (mC 261) 36 = .ok (.invokevirtual 426, 3) := by decide +kernel
theorem mo_262 : MOK 262 := ⟨List.mem_of_getElem? (i := 1765) (by decide +kernel), by decide +kernel, ⟨by decide +kernel, by decide +kernel⟩, List.mem_of_getElem? (i := 100) (by decide +kernel), by decide +kernel⟩
theorem m0_262 : M0K 262 := ⟨by decide +kernel, by decide +kernel⟩
theorem vk_261_426 : VK 261 426 262 1 12 := ⟨⟨List.mem_of_getElem? (i := 1762) (by decide +kernel), by decide +kernel⟩, List.mem_of_getElem? (i := 1764) (by decide +kernel), mo_262, m0_262, _, rfl, List.mem_of_getElem? (i := 70) (by decide +kernel), by decide⟩
theorem d_261_39 : decode (mC 261) 39 = .ok (.iconst 1, 1) := by decide +kernel
theorem d_261_40 : decode (mC 261) 40 = .ok (.ireturn, 1) := by decide +kernel
theorem mr_261 : mR 261 = some .boolean := by decide +kernel
theorem d_261_7 : decode (mC 261) 7 = .ok (.iconst 0, 1) := by decide +kernel
theorem d_261_8 : decode (mC 261) 8 = .ok (.ireturn, 1) := by decide +kernel
theorem ml_261 : mL 261 = 1 := by decide +kernel
theorem d_263_0 : decode (mC 263) 0 = .ok (.aload_n 0, 1) := by decide +kernel
theorem d_263_1 : decode (mC 263) 1 = .ok (.getfield 390, 3) := by decide +kernel
theorem cn_263 : (mN 263).cls = "CordLoftModel" := by decide +kernel
theorem d_263_4 : decode (mC 263) 4 = .ok (.ifCond .ne 5, 3) := by decide +kernel
theorem d_263_9 : decode (mC 263) 9 = .ok (.aload_n 0, 1) := by decide +kernel
theorem d_263_10 : decode (mC 263) 10 = .ok (.iconst 5, 1) := by decide +kernel
theorem d_263_11 : decode (mC 263) 11 = .ok (.aload_n 0, 1) := by decide +kernel
theorem d_263_12 : decode (mC 263) 12 = .ok (.getfield 387, 3) := by decide +kernel
theorem d_263_15 : decode (mC 263) 15 = .ok (.imul, 1) := by decide +kernel
theorem d_263_16 : decode (mC 263) 16 = .ok (.invokevirtual 426, 3) := by decide +kernel
theorem vk_263_426 : VK 263 426 262 1 12 := ⟨⟨List.mem_of_getElem? (i := 1762) (by decide +kernel), by decide +kernel⟩, List.mem_of_getElem? (i := 1764) (by decide +kernel), mo_262, m0_262, _, rfl, List.mem_of_getElem? (i := 70) (by decide +kernel), by decide⟩
theorem d_263_19 : decode (mC 263) 19 = .ok (.aload_n 0, 1) := by decide +kernel
theorem d_263_20 : decode (mC 263) 20 = .ok (.dup, 1) := by decide +kernel
theorem d_263_21 : decode (mC 263) 21 = .ok (.getfield 387, 3) := by decide +kernel
theorem d_263_24 : decode (mC 263) 24 = .ok (.iconst 1, 1) := by decide +kernel
theorem d_263_25 : decode (mC 263) 25 = .ok (.iadd, 1) := by decide +kernel
theorem d_263_26 : decode (mC 263) 26 = .ok (.putfield 387, 3) := by decide +kernel
theorem d_263_29 : decode (mC 263) 29 = .ok (.aload_n 0, 1) := by decide +kernel
theorem d_263_30 : decode (mC 263) 30 = .ok (.dup, 1) := by decide +kernel
theorem d_263_31 : decode (mC 263) 31 = .ok (.getfield 390, 3) := by decide +kernel
theorem d_263_34 : decode (mC 263) 34 = .ok (.iconst 1, 1) := by decide +kernel
theorem d_263_35 : decode (mC 263) 35 = .ok (.isub, 1) := by decide +kernel
theorem d_263_36 : decode (mC 263) 36 = .ok (.putfield 390, 3) := by decide +kernel
theorem d_263_39 : decode (mC 263) 39 = .ok (.iconst 1, 1) := by decide +kernel
theorem d_263_40 : decode (mC 263) 40 = .ok (.ireturn, 1) := by decide +kernel
theorem mr_263 : mR 263 = some .boolean := by decide +kernel
theorem d_263_7 : decode (mC 263) 7 = .ok (.iconst 0, 1) := by decide +kernel
theorem d_263_8 : decode (mC 263) 8 = .ok (.ireturn, 1) := by decide +kernel
theorem ml_263 : mL 263 = 1 := by decide +kernel
theorem d_264_41 : decode (mC 264) 41 = .ok (.iload 4, 2) := by decide +kernel
theorem d_264_43 : decode (mC 264) 43 = .ok (.iload_n 1, 1) := by decide +kernel
theorem d_264_44 : decode (mC 264) 44 = .ok (.if_icmp .ge 46, 3) := by decide +kernel
theorem d_264_47 : decode (mC 264) 47 = .ok (.iload_n 2, 1) := by decide +kernel
theorem d_264_48 : decode (mC 264) 48 = .ok (.iconst 1, 1) := by decide +kernel
theorem d_264_49 : decode (mC 264) 49 = .ok (.if_icmp .ne 20, 3) := by decide +kernel
theorem d_264_69 : decode (mC 264) 69 = .ok (.aload_n 0, 1) := by decide +kernel
theorem d_264_70 : decode (mC 264) 70 = .ok (.iload_n 3, 1) := by decide +kernel
theorem d_264_71 : decode (mC 264) 71 = .ok (.aload_n 0, 1) := by decide +kernel
theorem d_264_72 : decode (mC 264) 72 = .ok (.getfield 66, 3) := by decide +kernel
theorem cn_264 : (mN 264).cls = "CordLoftModel" := by decide +kernel
theorem d_264_75 : decode (mC 264) 75 = .ok (.iconst 3, 1) := by decide +kernel
theorem d_264_76 : decode (mC 264) 76 = .ok (.iaload, 1) := by decide +kernel
theorem d_264_77 : decode (mC 264) 77 = .ok (.iload 4, 2) := by decide +kernel
theorem d_264_79 : decode (mC 264) 79 = .ok (.iadd, 1) := by decide +kernel
theorem d_264_80 : decode (mC 264) 80 = .ok (.invokevirtual 417, 3) := by decide +kernel
theorem vk_264_417 : VK 264 417 257 2 12 := ⟨⟨List.mem_of_getElem? (i := 1744) (by decide +kernel), by decide +kernel⟩, List.mem_of_getElem? (i := 1746) (by decide +kernel), mo_257, m0_257, _, rfl, List.mem_of_getElem? (i := 68) (by decide +kernel), by decide⟩
theorem d_264_83 : decode (mC 264) 83 = .ok (.istore_n 3, 1) := by decide +kernel
theorem ml_264 : mL 264 = 5 := by decide +kernel
theorem d_264_84 : decode (mC 264) 84 = .ok (.iinc 4 1, 3) := by decide +kernel
theorem d_264_87 : decode (mC 264) 87 = .ok (.goto (-46), 3) := by decide +kernel
theorem d_264_52 : decode (mC 264) 52 = .ok (.aload_n 0, 1) := by decide +kernel
theorem d_264_53 : decode (mC 264) 53 = .ok (.iload_n 3, 1) := by decide +kernel
theorem d_264_54 : decode (mC 264) 54 = .ok (.aload_n 0, 1) := by decide +kernel
theorem d_264_55 : decode (mC 264) 55 = .ok (.getfield 66, 3) := by decide +kernel
theorem d_264_58 : decode (mC 264) 58 = .ok (.iconst 3, 1) := by decide +kernel
theorem d_264_59 : decode (mC 264) 59 = .ok (.iaload, 1) := by decide +kernel
theorem d_264_60 : decode (mC 264) 60 = .ok (.iload 4, 2) := by decide +kernel
theorem d_264_62 : decode (mC 264) 62 = .ok (.iadd, 1) := by decide +kernel
theorem d_264_63 : decode (mC 264) 63 = .ok (.invokevirtual 423, 3) := by decide +kernel
theorem vk_264_423 : VK 264 423 256 2 12 := ⟨⟨List.mem_of_getElem? (i := 1740) (by decide +kernel), by decide +kernel⟩, List.mem_of_getElem? (i := 1742) (by decide +kernel), mo_256, m0_256, _, rfl, List.mem_of_getElem? (i := 67) (by decide +kernel), by decide⟩
theorem d_264_66 : decode (mC 264) 66 = .ok (.goto 17, 3) := by decide +kernel
theorem d_264_0 : decode (mC 264) 0 = .ok (.iload_n 1, 1) := by decide +kernel
theorem d_264_1 : decode (mC 264) 1 = .ok (.iconst 0, 1) := by decide +kernel
theorem d_264_2 : decode (mC 264) 2 = .ok (.bipush 60, 2) := by decide +kernel
theorem d_264_4 : decode (mC 264) 4 = .ok (.invokestatic 399, 3) := by decide +kernel
theorem sk_264_399 : SKc 264 399 243 3 := ⟨⟨List.mem_of_getElem? (i := 1690) (by decide +kernel), by decide +kernel⟩, List.mem_of_getElem? (i := 1691) (by decide +kernel), mo_243, m0_243⟩
theorem d_264_7 : decode (mC 264) 7 = .ok (.ifCond .eq 12, 3) := by decide +kernel
theorem d_264_19 : decode (mC 264) 19 = .ok (.iconst (-1), 1) := by decide +kernel
theorem d_264_20 : decode (mC 264) 20 = .ok (.ireturn, 1) := by decide +kernel
theorem mr_264 : mR 264 = some .int := by decide +kernel
theorem d_264_10 : decode (mC 264) 10 = .ok (.iload_n 2, 1) := by decide +kernel
theorem d_264_11 : decode (mC 264) 11 = .ok (.iconst 0, 1) := by decide +kernel
theorem d_264_12 : decode (mC 264) 12 = .ok (.iconst 1, 1) := by decide +kernel
theorem d_264_13 : decode (mC 264) 13 = .ok (.invokestatic 399, 3) := by decide +kernel
theorem d_264_16 : decode (mC 264) 16 = .ok (.ifCond .ne 5, 3) := by decide +kernel
theorem d_264_21 : decode (mC 264) 21 = .ok (.aload_n 0, 1) := by decide +kernel
theorem d_264_22 : decode (mC 264) 22 = .ok (.getfield 66, 3) := by decide +kernel
theorem d_264_25 : decode (mC 264) 25 = .ok (.iconst 0, 1) := by decide +kernel
theorem d_264_26 : decode (mC 264) 26 = .ok (.iaload, 1) := by decide +kernel
theorem d_264_27 : decode (mC 264) 27 = .ok (.istore_n 3, 1) := by decide +kernel
theorem d_264_28 : decode (mC 264) 28 = .ok (.aload_n 0, 1) := by decide +kernel
theorem d_264_29 : decode (mC 264) 29 = .ok (.aload_n 0, 1) := by decide +kernel
theorem d_264_30 : decode (mC 264) 30 = .ok (.getfield 66, 3) := by decide +kernel
theorem d_264_33 : decode (mC 264) 33 = .ok (.iconst 4, 1) := by decide +kernel
theorem d_264_34 : decode (mC 264) 34 = .ok (.iaload, 1) := by decide +kernel
theorem d_264_35 : decode (mC 264) 35 = .ok (.putfield 420, 3) := by decide +kernel
theorem d_264_38 : decode (mC 264) 38 = .ok (.iconst 0, 1) := by decide +kernel
theorem d_264_39 : decode (mC 264) 39 = .ok (.istore 4, 2) := by decide +kernel
theorem d_264_90 : decode (mC 264) 90 = .ok (.iload_n 3, 1) := by decide +kernel
theorem d_264_91 : decode (mC 264) 91 = .ok (.ireturn, 1) := by decide +kernel
theorem d_266_0 : decode (mC 266) 0 = .ok (.iload_n 1, 1) := by decide +kernel
theorem d_266_1 : decode (mC 266) 1 = .ok (.iconst 0, 1) := by decide +kernel
theorem d_266_2 : decode (mC 266) 2 = .ok (.iconst 1, 1) := by decide +kernel
theorem d_266_3 : decode (mC 266) 3 = .ok (.aload_n 0, 1) := by decide +kernel
theorem d_266_4 : decode (mC 266) 4 = .ok (.getfield 303, 3) := by decide +kernel
theorem cn_266 : (mN 266).cls = "CordLoftModel" := by decide +kernel
theorem d_266_7 : decode (mC 266) 7 = .ok (.ishl, 1) := by decide +kernel
theorem d_266_8 : decode (mC 266) 8 = .ok (.iconst 1, 1) := by decide +kernel
theorem d_266_9 : decode (mC 266) 9 = .ok (.isub, 1) := by decide +kernel
theorem d_266_10 : decode (mC 266) 10 = .ok (.invokestatic 399, 3) := by decide +kernel
theorem sk_266_399 : SKc 266 399 243 3 := ⟨⟨List.mem_of_getElem? (i := 1690) (by decide +kernel), by decide +kernel⟩, List.mem_of_getElem? (i := 1691) (by decide +kernel), mo_243, m0_243⟩
theorem d_266_13 : decode (mC 266) 13 = .ok (.ireturn, 1) := by decide +kernel
theorem mr_266 : mR 266 = some .boolean := by decide +kernel
theorem ml_266 : mL 266 = 2 := by decide +kernel
theorem d_268_0 : decode (mC 268) 0 = .ok (.iconst 1, 1) := by decide +kernel
theorem d_268_1 : decode (mC 268) 1 = .ok (.aload_n 0, 1) := by decide +kernel
theorem d_268_2 : decode (mC 268) 2 = .ok (.getfield 369, 3) := by decide +kernel
theorem cn_268 : (mN 268).cls = "CordLoftModel" := by decide +kernel
theorem d_268_5 : decode (mC 268) 5 = .ok (.ishl, 1) := by decide +kernel
theorem d_268_6 : decode (mC 268) 6 = .ok (.iconst 1, 1) := by decide +kernel
theorem d_268_7 : decode (mC 268) 7 = .ok (.isub, 1) := by decide +kernel
theorem d_268_8 : decode (mC 268) 8 = .ok (.aload_n 0, 1) := by decide +kernel
theorem d_268_9 : decode (mC 268) 9 = .ok (.getfield 66, 3) := by decide +kernel
theorem d_268_12 : decode (mC 268) 12 = .ok (.iconst 1, 1) := by decide +kernel
theorem d_268_13 : decode (mC 268) 13 = .ok (.iaload, 1) := by decide +kernel
theorem d_268_14 : decode (mC 268) 14 = .ok (.iconst (-1), 1) := by decide +kernel
theorem d_268_15 : decode (mC 268) 15 = .ok (.ixor, 1) := by decide +kernel
theorem d_268_16 : decode (mC 268) 16 = .ok (.iand, 1) := by decide +kernel
theorem d_268_17 : decode (mC 268) 17 = .ok (.ireturn, 1) := by decide +kernel
theorem mr_268 : mR 268 = some .int := by decide +kernel
theorem ml_268 : mL 268 = 1 := by decide +kernel
theorem d_269_0 : decode (mC 269) 0 = .ok (.iload_n 0, 1) := by decide +kernel
theorem d_269_1 : decode (mC 269) 1 = .ok (.iload_n 1, 1) := by decide +kernel
theorem d_269_2 : decode (mC 269) 2 = .ok (.iconst (-1), 1) := by decide +kernel
theorem d_269_3 : decode (mC 269) 3 = .ok (.ixor, 1) := by decide +kernel
theorem d_269_4 : decode (mC 269) 4 = .ok (.iand, 1) := by decide +kernel
theorem d_269_5 : decode (mC 269) 5 = .ok (.ifCond .ne 7, 3) := by decide +kernel
theorem d_269_12 : decode (mC 269) 12 = .ok (.iconst 0, 1) := by decide +kernel
theorem d_269_13 : decode (mC 269) 13 = .ok (.ireturn, 1) := by decide +kernel
theorem mr_269 : mR 269 = some .boolean := by decide +kernel
theorem d_269_8 : decode (mC 269) 8 = .ok (.iconst 1, 1) := by decide +kernel
theorem d_269_9 : decode (mC 269) 9 = .ok (.goto 4, 3) := by decide +kernel
theorem ml_269 : mL 269 = 2 := by decide +kernel
theorem d_270_4 : decode (mC 270) 4 = .ok (.iload_n 3, 1) := by decide +kernel
theorem d_270_5 : decode (mC 270) 5 = .ok (.aload_n 0, 1) := by decide +kernel
theorem d_270_6 : decode (mC 270) 6 = .ok (.getfield 369, 3) := by decide +kernel
theorem cn_270 : (mN 270).cls = "CordLoftModel" := by decide +kernel
theorem d_270_9 : decode (mC 270) 9 = .ok (.if_icmp .ge 30, 3) := by decide +kernel
theorem d_270_12 : decode (mC 270) 12 = .ok (.iload_n 2, 1) := by decide +kernel
theorem d_270_13 : decode (mC 270) 13 = .ok (.iload_n 1, 1) := by decide +kernel
theorem d_270_14 : decode (mC 270) 14 = .ok (.iload_n 3, 1) := by decide +kernel
theorem d_270_15 : decode (mC 270) 15 = .ok (.invokestatic 326, 3) := by decide +kernel
theorem sk_270_326 : SKc 270 326 225 2 := ⟨⟨List.mem_of_getElem? (i := 1620) (by decide +kernel), by decide +kernel⟩, List.mem_of_getElem? (i := 1621) (by decide +kernel), mo_225, m0_225⟩
theorem d_270_18 : decode (mC 270) 18 = .ok (.ifCond .eq 12, 3) := by decide +kernel
theorem d_270_30 : decode (mC 270) 30 = .ok (.iconst 0, 1) := by decide +kernel
theorem d_270_31 : decode (mC 270) 31 = .ok (.ixor, 1) := by decide +kernel
theorem d_270_32 : decode (mC 270) 32 = .ok (.istore_n 2, 1) := by decide +kernel
theorem ml_270 : mL 270 = 4 := by decide +kernel
theorem d_270_33 : decode (mC 270) 33 = .ok (.iinc 3 1, 3) := by decide +kernel
theorem d_270_36 : decode (mC 270) 36 = .ok (.goto (-32), 3) := by decide +kernel
theorem d_270_21 : decode (mC 270) 21 = .ok (.aload_n 0, 1) := by decide +kernel
theorem d_270_22 : decode (mC 270) 22 = .ok (.getfield 60, 3) := by decide +kernel
theorem d_270_25 : decode (mC 270) 25 = .ok (.iload_n 3, 1) := by decide +kernel
theorem d_270_26 : decode (mC 270) 26 = .ok (.iaload, 1) := by decide +kernel
theorem d_270_27 : decode (mC 270) 27 = .ok (.goto 4, 3) := by decide +kernel
theorem d_270_0 : decode (mC 270) 0 = .ok (.iconst 0, 1) := by decide +kernel
theorem d_270_1 : decode (mC 270) 1 = .ok (.istore_n 2, 1) := by decide +kernel
theorem d_270_2 : decode (mC 270) 2 = .ok (.iconst 0, 1) := by decide +kernel
theorem d_270_3 : decode (mC 270) 3 = .ok (.istore_n 3, 1) := by decide +kernel
theorem d_270_39 : decode (mC 270) 39 = .ok (.iload_n 2, 1) := by decide +kernel
theorem d_270_40 : decode (mC 270) 40 = .ok (.ireturn, 1) := by decide +kernel
theorem mr_270 : mR 270 = some .int := by decide +kernel
theorem d_267_45 : decode (mC 267) 45 = .ok (.invokestatic 283, 3) := by decide +kernel
theorem sk_267_283 : SKc 267 283 259 1 := ⟨⟨List.mem_of_getElem? (i := 1752) (by decide +kernel), by decide +kernel⟩, List.mem_of_getElem? (i := 1753) (by decide +kernel), mo_259, m0_259⟩
theorem d_267_48 : decode (mC 267) 48 = .ok (.iadd, 1) := by decide +kernel
theorem d_267_49 : decode (mC 267) 49 = .ok (.istore_n 2, 1) := by decide +kernel
theorem ml_267 : mL 267 = 4 := by decide +kernel
theorem d_267_50 : decode (mC 267) 50 = .ok (.iinc 3 1, 3) := by decide +kernel
theorem d_267_53 : decode (mC 267) 53 = .ok (.goto (-49), 3) := by decide +kernel
theorem d_267_44 : decode (mC 267) 44 = .ok (.iconst 0, 1) := by decide +kernel
theorem d_267_4 : decode (mC 267) 4 = .ok (.iload_n 3, 1) := by decide +kernel
theorem d_267_5 : decode (mC 267) 5 = .ok (.aload_n 0, 1) := by decide +kernel
theorem d_267_6 : decode (mC 267) 6 = .ok (.invokevirtual 429, 3) := by decide +kernel
theorem mo_268 : MOK 268 := ⟨List.mem_of_getElem? (i := 1789) (by decide +kernel), by decide +kernel, ⟨by decide +kernel, by decide +kernel⟩, List.mem_of_getElem? (i := 100) (by decide +kernel), by decide +kernel⟩
theorem m0_268 : M0K 268 := ⟨by decide +kernel, by decide +kernel⟩
theorem vk_267_429 : VK 267 429 268 0 12 := ⟨⟨List.mem_of_getElem? (i := 1786) (by decide +kernel), by decide +kernel⟩, List.mem_of_getElem? (i := 1788) (by decide +kernel), mo_268, m0_268, _, rfl, List.mem_of_getElem? (i := 73) (by decide +kernel), by decide⟩
theorem d_267_9 : decode (mC 267) 9 = .ok (.if_icmp .gt 47, 3) := by decide +kernel
theorem d_267_12 : decode (mC 267) 12 = .ok (.iload_n 2, 1) := by decide +kernel
theorem d_267_13 : decode (mC 267) 13 = .ok (.iload_n 3, 1) := by decide +kernel
theorem d_267_14 : decode (mC 267) 14 = .ok (.aload_n 0, 1) := by decide +kernel
theorem d_267_15 : decode (mC 267) 15 = .ok (.invokevirtual 429, 3) := by decide +kernel
theorem d_267_18 : decode (mC 267) 18 = .ok (.invokestatic 432, 3) := by decide +kernel
theorem mo_269 : MOK 269 := ⟨List.mem_of_getElem? (i := 1792) (by decide +kernel), by decide +kernel, ⟨by decide +kernel, by decide +kernel⟩, List.mem_of_getElem? (i := 100) (by decide +kernel), by decide +kernel⟩
theorem m0_269 : M0K 269 := ⟨by decide +kernel, by decide +kernel⟩
theorem sk_267_432 : SKc 267 432 269 2 := ⟨⟨List.mem_of_getElem? (i := 1790) (by decide +kernel), by decide +kernel⟩, List.mem_of_getElem? (i := 1791) (by decide +kernel), mo_269, m0_269⟩
theorem d_267_21 : decode (mC 267) 21 = .ok (.ifCond .eq 23, 3) := by decide +kernel
theorem d_267_24 : decode (mC 267) 24 = .ok (.aload_n 0, 1) := by decide +kernel
theorem d_267_25 : decode (mC 267) 25 = .ok (.getfield 66, 3) := by decide +kernel
theorem cn_267 : (mN 267).cls = "CordLoftModel" := by decide +kernel
theorem d_267_28 : decode (mC 267) 28 = .ok (.iconst 0, 1) := by decide +kernel
theorem d_267_29 : decode (mC 267) 29 = .ok (.iaload, 1) := by decide +kernel
theorem d_267_30 : decode (mC 267) 30 = .ok (.aload_n 0, 1) := by decide +kernel
theorem d_267_31 : decode (mC 267) 31 = .ok (.iload_n 3, 1) := by decide +kernel
theorem d_267_32 : decode (mC 267) 32 = .ok (.invokevirtual 435, 3) := by decide +kernel
theorem mo_270 : MOK 270 := ⟨List.mem_of_getElem? (i := 1796) (by decide +kernel), by decide +kernel, ⟨by decide +kernel, by decide +kernel⟩, List.mem_of_getElem? (i := 100) (by decide +kernel), by decide +kernel⟩
theorem m0_270 : M0K 270 := ⟨by decide +kernel, by decide +kernel⟩
theorem vk_267_435 : VK 267 435 270 1 12 := ⟨⟨List.mem_of_getElem? (i := 1793) (by decide +kernel), by decide +kernel⟩, List.mem_of_getElem? (i := 1795) (by decide +kernel), mo_270, m0_270, _, rfl, List.mem_of_getElem? (i := 74) (by decide +kernel), by decide⟩
theorem d_267_35 : decode (mC 267) 35 = .ok (.ixor, 1) := by decide +kernel
theorem d_267_36 : decode (mC 267) 36 = .ok (.iload_n 1, 1) := by decide +kernel
theorem d_267_37 : decode (mC 267) 37 = .ok (.if_icmp .ne 7, 3) := by decide +kernel
theorem d_267_40 : decode (mC 267) 40 = .ok (.iconst 1, 1) := by decide +kernel
theorem d_267_41 : decode (mC 267) 41 = .ok (.goto 4, 3) := by decide +kernel
theorem d_267_0 : decode (mC 267) 0 = .ok (.iconst 0, 1) := by decide +kernel
theorem d_267_1 : decode (mC 267) 1 = .ok (.istore_n 2, 1) := by decide +kernel
theorem d_267_2 : decode (mC 267) 2 = .ok (.iconst 0, 1) := by decide +kernel
theorem d_267_3 : decode (mC 267) 3 = .ok (.istore_n 3, 1) := by decide +kernel
theorem d_267_56 : decode (mC 267) 56 = .ok (.iload_n 2, 1) := by decide +kernel
theorem d_267_57 : decode (mC 267) 57 = .ok (.ireturn, 1) := by decide +kernel
theorem mr_267 : mR 267 = some .int := by decide +kernel
theorem d_265_21 : decode (mC 265) 21 = .ok (.invokestatic 283, 3) := by decide +kernel
theorem sk_265_283 : SKc 265 283 259 1 := ⟨⟨List.mem_of_getElem? (i := 1752) (by decide +kernel), by decide +kernel⟩, List.mem_of_getElem? (i := 1753) (by decide +kernel), mo_259, m0_259⟩
theorem d_265_24 : decode (mC 265) 24 = .ok (.goto 4, 3) := by decide +kernel
theorem d_265_28 : decode (mC 265) 28 = .ok (.ireturn, 1) := by decide +kernel
theorem mr_265 : mR 265 = some .int := by decide +kernel
theorem d_265_0 : decode (mC 265) 0 = .ok (.aload_n 0, 1) := by decide +kernel
theorem d_265_1 : decode (mC 265) 1 = .ok (.iload_n 1, 1) := by decide +kernel
theorem d_265_2 : decode (mC 265) 2 = .ok (.invokevirtual 438, 3) := by decide +kernel
theorem mo_266 : MOK 266 := ⟨List.mem_of_getElem? (i := 1781) (by decide +kernel), by decide +kernel, ⟨by decide +kernel, by decide +kernel⟩, List.mem_of_getElem? (i := 100) (by decide +kernel), by decide +kernel⟩
theorem m0_266 : M0K 266 := ⟨by decide +kernel, by decide +kernel⟩
theorem vk_265_438 : VK 265 438 266 1 12 := ⟨⟨List.mem_of_getElem? (i := 1778) (by decide +kernel), by decide +kernel⟩, List.mem_of_getElem? (i := 1780) (by decide +kernel), mo_266, m0_266, _, rfl, List.mem_of_getElem? (i := 71) (by decide +kernel), by decide⟩
theorem d_265_5 : decode (mC 265) 5 = .ok (.ifCond .eq 22, 3) := by decide +kernel
theorem d_265_27 : decode (mC 265) 27 = .ok (.iconst (-1), 1) := by decide +kernel
theorem d_265_8 : decode (mC 265) 8 = .ok (.aload_n 0, 1) := by decide +kernel
theorem d_265_9 : decode (mC 265) 9 = .ok (.iload_n 1, 1) := by decide +kernel
theorem d_265_10 : decode (mC 265) 10 = .ok (.invokevirtual 441, 3) := by decide +kernel
theorem mo_267 : MOK 267 := ⟨List.mem_of_getElem? (i := 1785) (by decide +kernel), by decide +kernel, ⟨by decide +kernel, by decide +kernel⟩, List.mem_of_getElem? (i := 100) (by decide +kernel), by decide +kernel⟩
theorem m0_267 : M0K 267 := ⟨by decide +kernel, by decide +kernel⟩
theorem vk_265_441 : VK 265 441 267 1 12 := ⟨⟨List.mem_of_getElem? (i := 1782) (by decide +kernel), by decide +kernel⟩, List.mem_of_getElem? (i := 1784) (by decide +kernel), mo_267, m0_267, _, rfl, List.mem_of_getElem? (i := 72) (by decide +kernel), by decide⟩
theorem d_265_13 : decode (mC 265) 13 = .ok (.ifCond .le 7, 3) := by decide +kernel
theorem d_265_20 : decode (mC 265) 20 = .ok (.iconst 0, 1) := by decide +kernel
theorem d_265_16 : decode (mC 265) 16 = .ok (.iconst 1, 1) := by decide +kernel
theorem d_265_17 : decode (mC 265) 17 = .ok (.goto 4, 3) := by decide +kernel
theorem ml_265 : mL 265 = 2 := by decide +kernel
theorem d_271_0 : decode (mC 271) 0 = .ok (.aload_n 0, 1) := by decide +kernel
theorem d_271_1 : decode (mC 271) 1 = .ok (.iload_n 1, 1) := by decide +kernel
theorem d_271_2 : decode (mC 271) 2 = .ok (.invokevirtual 438, 3) := by decide +kernel
theorem vk_271_438 : VK 271 438 266 1 12 := ⟨⟨List.mem_of_getElem? (i := 1778) (by decide +kernel), by decide +kernel⟩, List.mem_of_getElem? (i := 1780) (by decide +kernel), mo_266, m0_266, _, rfl, List.mem_of_getElem? (i := 71) (by decide +kernel), by decide⟩
theorem d_271_5 : decode (mC 271) 5 = .ok (.ifCond .eq 11, 3) := by decide +kernel
theorem d_271_16 : decode (mC 271) 16 = .ok (.iconst (-1), 1) := by decide +kernel
theorem d_271_17 : decode (mC 271) 17 = .ok (.ireturn, 1) := by decide +kernel
theorem mr_271 : mR 271 = some .int := by decide +kernel
theorem d_271_8 : decode (mC 271) 8 = .ok (.aload_n 0, 1) := by decide +kernel
theorem d_271_9 : decode (mC 271) 9 = .ok (.iload_n 1, 1) := by decide +kernel
theorem d_271_10 : decode (mC 271) 10 = .ok (.invokevirtual 441, 3) := by decide +kernel
theorem vk_271_441 : VK 271 441 267 1 12 := ⟨⟨List.mem_of_getElem? (i := 1782) (by decide +kernel), by decide +kernel⟩, List.mem_of_getElem? (i := 1784) (by decide +kernel), mo_267, m0_267, _, rfl, List.mem_of_getElem? (i := 72) (by decide +kernel), by decide⟩
theorem d_271_13 : decode (mC 271) 13 = .ok (.goto 4, 3) := by decide +kernel
theorem ml_271 : mL 271 = 2 := by decide +kernel
theorem d_273_13 : decode (mC 273) 13 = .ok (.iload 4, 2) := by decide +kernel
theorem d_273_15 : decode (mC 273) 15 = .ok (.aload_n 0, 1) := by decide +kernel
theorem d_273_16 : decode (mC 273) 16 = .ok (.invokevirtual 429, 3) := by decide +kernel
theorem vk_273_429 : VK 273 429 268 0 12 := ⟨⟨List.mem_of_getElem? (i := 1786) (by decide +kernel), by decide +kernel⟩, List.mem_of_getElem? (i := 1788) (by decide +kernel), mo_268, m0_268, _, rfl, List.mem_of_getElem? (i := 73) (by decide +kernel), by decide⟩
theorem d_273_19 : decode (mC 273) 19 = .ok (.if_icmp .gt 50, 3) := by decide +kernel
theorem d_273_22 : decode (mC 273) 22 = .ok (.iload 4, 2) := by decide +kernel
theorem d_273_24 : decode (mC 273) 24 = .ok (.aload_n 0, 1) := by decide +kernel
theorem d_273_25 : decode (mC 273) 25 = .ok (.invokevirtual 429, 3) := by decide +kernel
theorem d_273_28 : decode (mC 273) 28 = .ok (.invokestatic 432, 3) := by decide +kernel
theorem sk_273_432 : SKc 273 432 269 2 := ⟨⟨List.mem_of_getElem? (i := 1790) (by decide +kernel), by decide +kernel⟩, List.mem_of_getElem? (i := 1791) (by decide +kernel), mo_269, m0_269⟩
theorem d_273_31 : decode (mC 273) 31 = .ok (.ifCond .eq 32, 3) := by decide +kernel
theorem d_273_63 : decode (mC 273) 63 = .ok (.iinc 4 1, 3) := by decide +kernel
theorem ml_273 : mL 273 = 5 := by decide +kernel
theorem d_273_66 : decode (mC 273) 66 = .ok (.goto (-53), 3) := by decide +kernel
theorem d_273_34 : decode (mC 273) 34 = .ok (.aload_n 0, 1) := by decide +kernel
theorem d_273_35 : decode (mC 273) 35 = .ok (.iload 4, 2) := by decide +kernel
theorem d_273_37 : decode (mC 273) 37 = .ok (.invokevirtual 435, 3) := by decide +kernel
theorem vk_273_435 : VK 273 435 270 1 12 := ⟨⟨List.mem_of_getElem? (i := 1793) (by decide +kernel), by decide +kernel⟩, List.mem_of_getElem? (i := 1795) (by decide +kernel), mo_270, m0_270, _, rfl, List.mem_of_getElem? (i := 74) (by decide +kernel), by decide⟩
theorem d_273_40 : decode (mC 273) 40 = .ok (.iload_n 1, 1) := by decide +kernel
theorem d_273_41 : decode (mC 273) 41 = .ok (.if_icmp .ne 22, 3) := by decide +kernel
theorem d_273_44 : decode (mC 273) 44 = .ok (.iload_n 3, 1) := by decide +kernel
theorem d_273_45 : decode (mC 273) 45 = .ok (.ifCond .lt 15, 3) := by decide +kernel
theorem d_273_60 : decode (mC 273) 60 = .ok (.iload 4, 2) := by decide +kernel
theorem d_273_62 : decode (mC 273) 62 = .ok (.istore_n 3, 1) := by decide +kernel
theorem d_273_48 : decode (mC 273) 48 = .ok (.iload 4, 2) := by decide +kernel
theorem d_273_50 : decode (mC 273) 50 = .ok (.invokestatic 290, 3) := by decide +kernel
theorem sk_273_290 : SKc 273 290 250 1 := ⟨⟨List.mem_of_getElem? (i := 1717) (by decide +kernel), by decide +kernel⟩, List.mem_of_getElem? (i := 1718) (by decide +kernel), mo_250, m0_250⟩
theorem d_273_53 : decode (mC 273) 53 = .ok (.iload_n 3, 1) := by decide +kernel
theorem d_273_54 : decode (mC 273) 54 = .ok (.invokestatic 290, 3) := by decide +kernel
theorem d_273_57 : decode (mC 273) 57 = .ok (.if_icmp .ge 6, 3) := by decide +kernel
theorem d_273_11 : decode (mC 273) 11 = .ok (.istore 4, 2) := by decide +kernel
theorem d_273_69 : decode (mC 273) 69 = .ok (.iload_n 3, 1) := by decide +kernel
theorem d_273_70 : decode (mC 273) 70 = .ok (.ireturn, 1) := by decide +kernel
theorem mr_273 : mR 273 = some .int := by decide +kernel
theorem d_273_0 : decode (mC 273) 0 = .ok (.iconst (-1), 1) := by decide +kernel
theorem d_273_1 : decode (mC 273) 1 = .ok (.istore_n 3, 1) := by decide +kernel
theorem d_273_2 : decode (mC 273) 2 = .ok (.iload_n 2, 1) := by decide +kernel
theorem d_273_3 : decode (mC 273) 3 = .ok (.ifCond .eq 7, 3) := by decide +kernel
theorem d_273_10 : decode (mC 273) 10 = .ok (.iconst 0, 1) := by decide +kernel
theorem d_273_6 : decode (mC 273) 6 = .ok (.iconst 1, 1) := by decide +kernel
theorem d_273_7 : decode (mC 273) 7 = .ok (.goto 4, 3) := by decide +kernel
theorem d_272_0 : decode (mC 272) 0 = .ok (.aload_n 0, 1) := by decide +kernel
theorem d_272_1 : decode (mC 272) 1 = .ok (.iload_n 1, 1) := by decide +kernel
theorem d_272_2 : decode (mC 272) 2 = .ok (.invokevirtual 438, 3) := by decide +kernel
theorem vk_272_438 : VK 272 438 266 1 12 := ⟨⟨List.mem_of_getElem? (i := 1778) (by decide +kernel), by decide +kernel⟩, List.mem_of_getElem? (i := 1780) (by decide +kernel), mo_266, m0_266, _, rfl, List.mem_of_getElem? (i := 71) (by decide +kernel), by decide⟩
theorem d_272_5 : decode (mC 272) 5 = .ok (.ifCond .eq 12, 3) := by decide +kernel
theorem d_272_17 : decode (mC 272) 17 = .ok (.iconst (-1), 1) := by decide +kernel
theorem d_272_18 : decode (mC 272) 18 = .ok (.ireturn, 1) := by decide +kernel
theorem mr_272 : mR 272 = some .int := by decide +kernel
theorem d_272_8 : decode (mC 272) 8 = .ok (.iload_n 2, 1) := by decide +kernel
theorem d_272_9 : decode (mC 272) 9 = .ok (.iconst 0, 1) := by decide +kernel
theorem d_272_10 : decode (mC 272) 10 = .ok (.iconst 1, 1) := by decide +kernel
theorem d_272_11 : decode (mC 272) 11 = .ok (.invokestatic 399, 3) := by decide +kernel
theorem sk_272_399 : SKc 272 399 243 3 := ⟨⟨List.mem_of_getElem? (i := 1690) (by decide +kernel), by decide +kernel⟩, List.mem_of_getElem? (i := 1691) (by decide +kernel), mo_243, m0_243⟩
theorem d_272_14 : decode (mC 272) 14 = .ok (.ifCond .ne 5, 3) := by decide +kernel
theorem d_272_19 : decode (mC 272) 19 = .ok (.aload_n 0, 1) := by decide +kernel
theorem d_272_20 : decode (mC 272) 20 = .ok (.aload_n 0, 1) := by decide +kernel
theorem d_272_21 : decode (mC 272) 21 = .ok (.getfield 66, 3) := by decide +kernel
theorem cn_272 : (mN 272).cls = "CordLoftModel" := by decide +kernel
theorem d_272_24 : decode (mC 272) 24 = .ok (.iconst 0, 1) := by decide +kernel
theorem d_272_25 : decode (mC 272) 25 = .ok (.iaload, 1) := by decide +kernel
theorem d_272_26 : decode (mC 272) 26 = .ok (.iload_n 1, 1) := by decide +kernel
theorem d_272_27 : decode (mC 272) 27 = .ok (.ixor, 1) := by decide +kernel
theorem d_272_28 : decode (mC 272) 28 = .ok (.iconst 0, 1) := by decide +kernel
theorem d_272_29 : decode (mC 272) 29 = .ok (.invokevirtual 444, 3) := by decide +kernel
theorem mo_273 : MOK 273 := ⟨List.mem_of_getElem? (i := 1808) (by decide +kernel), by decide +kernel, ⟨by decide +kernel, by decide +kernel⟩, List.mem_of_getElem? (i := 100) (by decide +kernel), by decide +kernel⟩
theorem m0_273 : M0K 273 := ⟨by decide +kernel, by decide +kernel⟩
theorem vk_272_444 : VK 272 444 273 2 12 := ⟨⟨List.mem_of_getElem? (i := 1805) (by decide +kernel), by decide +kernel⟩, List.mem_of_getElem? (i := 1807) (by decide +kernel), mo_273, m0_273, _, rfl, List.mem_of_getElem? (i := 75) (by decide +kernel), by decide⟩
theorem d_272_32 : decode (mC 272) 32 = .ok (.istore_n 3, 1) := by decide +kernel
theorem ml_272 : mL 272 = 4 := by decide +kernel
theorem d_272_33 : decode (mC 272) 33 = .ok (.iload_n 3, 1) := by decide +kernel
theorem d_272_34 : decode (mC 272) 34 = .ok (.ifCond .ge 7, 3) := by decide +kernel
theorem d_272_41 : decode (mC 272) 41 = .ok (.iload_n 2, 1) := by decide +kernel
theorem d_272_42 : decode (mC 272) 42 = .ok (.ifCond .ne 10, 3) := by decide +kernel
theorem d_272_52 : decode (mC 272) 52 = .ok (.iload_n 3, 1) := by decide +kernel
theorem d_272_53 : decode (mC 272) 53 = .ok (.ireturn, 1) := by decide +kernel
theorem d_272_45 : decode (mC 272) 45 = .ok (.iload_n 3, 1) := by decide +kernel
theorem d_272_46 : decode (mC 272) 46 = .ok (.invokestatic 290, 3) := by decide +kernel
theorem sk_272_290 : SKc 272 290 250 1 := ⟨⟨List.mem_of_getElem? (i := 1717) (by decide +kernel), by decide +kernel⟩, List.mem_of_getElem? (i := 1718) (by decide +kernel), mo_250, m0_250⟩
theorem d_272_49 : decode (mC 272) 49 = .ok (.goto 4, 3) := by decide +kernel
theorem d_272_37 : decode (mC 272) 37 = .ok (.iconst (-1), 1) := by decide +kernel
theorem d_272_38 : decode (mC 272) 38 = .ok (.goto 15, 3) := by decide +kernel
theorem d_276_4 : decode (mC 276) 4 = .ok (.iload_n 3, 1) := by decide +kernel
theorem d_276_5 : decode (mC 276) 5 = .ok (.aload_n 0, 1) := by decide +kernel
theorem d_276_6 : decode (mC 276) 6 = .ok (.getfield 369, 3) := by decide +kernel
theorem cn_276 : (mN 276).cls = "CordLoftModel" := by decide +kernel
theorem d_276_9 : decode (mC 276) 9 = .ok (.if_icmp .ge 30, 3) := by decide +kernel
theorem d_276_12 : decode (mC 276) 12 = .ok (.iload_n 2, 1) := by decide +kernel
theorem d_276_13 : decode (mC 276) 13 = .ok (.iload_n 1, 1) := by decide +kernel
theorem d_276_14 : decode (mC 276) 14 = .ok (.iload_n 3, 1) := by decide +kernel
theorem d_276_15 : decode (mC 276) 15 = .ok (.invokestatic 326, 3) := by decide +kernel
theorem sk_276_326 : SKc 276 326 225 2 := ⟨⟨List.mem_of_getElem? (i := 1620) (by decide +kernel), by decide +kernel⟩, List.mem_of_getElem? (i := 1621) (by decide +kernel), mo_225, m0_225⟩
theorem d_276_18 : decode (mC 276) 18 = .ok (.ifCond .eq 12, 3) := by decide +kernel
theorem d_276_30 : decode (mC 276) 30 = .ok (.iconst 0, 1) := by decide +kernel
theorem d_276_31 : decode (mC 276) 31 = .ok (.iadd, 1) := by decide +kernel
theorem d_276_32 : decode (mC 276) 32 = .ok (.istore_n 2, 1) := by decide +kernel
theorem ml_276 : mL 276 = 4 := by decide +kernel
theorem d_276_33 : decode (mC 276) 33 = .ok (.iinc 3 1, 3) := by decide +kernel
theorem d_276_36 : decode (mC 276) 36 = .ok (.goto (-32), 3) := by decide +kernel
theorem d_276_21 : decode (mC 276) 21 = .ok (.aload_n 0, 1) := by decide +kernel
theorem d_276_22 : decode (mC 276) 22 = .ok (.getfield 63, 3) := by decide +kernel
theorem d_276_25 : decode (mC 276) 25 = .ok (.iload_n 3, 1) := by decide +kernel
theorem d_276_26 : decode (mC 276) 26 = .ok (.iaload, 1) := by decide +kernel
theorem d_276_27 : decode (mC 276) 27 = .ok (.goto 4, 3) := by decide +kernel
theorem d_276_0 : decode (mC 276) 0 = .ok (.iconst 0, 1) := by decide +kernel
theorem d_276_1 : decode (mC 276) 1 = .ok (.istore_n 2, 1) := by decide +kernel
theorem d_276_2 : decode (mC 276) 2 = .ok (.iconst 0, 1) := by decide +kernel
theorem d_276_3 : decode (mC 276) 3 = .ok (.istore_n 3, 1) := by decide +kernel
theorem d_276_39 : decode (mC 276) 39 = .ok (.iload_n 2, 1) := by decide +kernel
theorem d_276_40 : decode (mC 276) 40 = .ok (.ireturn, 1) := by decide +kernel
theorem mr_276 : mR 276 = some .int := by decide +kernel
theorem d_275_4 : decode (mC 275) 4 = .ok (.iload_n 3, 1) := by decide +kernel
theorem d_275_5 : decode (mC 275) 5 = .ok (.aload_n 0, 1) := by decide +kernel
theorem d_275_6 : decode (mC 275) 6 = .ok (.invokevirtual 429, 3) := by decide +kernel
theorem vk_275_429 : VK 275 429 268 0 12 := ⟨⟨List.mem_of_getElem? (i := 1786) (by decide +kernel), by decide +kernel⟩, List.mem_of_getElem? (i := 1788) (by decide +kernel), mo_268, m0_268, _, rfl, List.mem_of_getElem? (i := 73) (by decide +kernel), by decide⟩
theorem d_275_9 : decode (mC 275) 9 = .ok (.if_icmp .gt 82, 3) := by decide +kernel
theorem d_275_12 : decode (mC 275) 12 = .ok (.iload_n 3, 1) := by decide +kernel
theorem d_275_13 : decode (mC 275) 13 = .ok (.aload_n 0, 1) := by decide +kernel
theorem d_275_14 : decode (mC 275) 14 = .ok (.invokevirtual 429, 3) := by decide +kernel
theorem d_275_17 : decode (mC 275) 17 = .ok (.invokestatic 432, 3) := by decide +kernel
theorem sk_275_432 : SKc 275 432 269 2 := ⟨⟨List.mem_of_getElem? (i := 1790) (by decide +kernel), by decide +kernel⟩, List.mem_of_getElem? (i := 1791) (by decide +kernel), mo_269, m0_269⟩
theorem d_275_20 : decode (mC 275) 20 = .ok (.ifCond .eq 65, 3) := by decide +kernel
theorem d_275_85 : decode (mC 275) 85 = .ok (.iinc 3 1, 3) := by decide +kernel
theorem ml_275 : mL 275 = 4 := by decide +kernel
theorem d_275_88 : decode (mC 275) 88 = .ok (.goto (-84), 3) := by decide +kernel
theorem d_275_23 : decode (mC 275) 23 = .ok (.aload_n 0, 1) := by decide +kernel
theorem d_275_24 : decode (mC 275) 24 = .ok (.getfield 66, 3) := by decide +kernel
theorem cn_275 : (mN 275).cls = "CordLoftModel" := by decide +kernel
theorem d_275_27 : decode (mC 275) 27 = .ok (.iconst 0, 1) := by decide +kernel
theorem d_275_28 : decode (mC 275) 28 = .ok (.iaload, 1) := by decide +kernel
theorem d_275_29 : decode (mC 275) 29 = .ok (.aload_n 0, 1) := by decide +kernel
theorem d_275_30 : decode (mC 275) 30 = .ok (.iload_n 3, 1) := by decide +kernel
theorem d_275_31 : decode (mC 275) 31 = .ok (.invokevirtual 435, 3) := by decide +kernel
theorem vk_275_435 : VK 275 435 270 1 12 := ⟨⟨List.mem_of_getElem? (i := 1793) (by decide +kernel), by decide +kernel⟩, List.mem_of_getElem? (i := 1795) (by decide +kernel), mo_270, m0_270, _, rfl, List.mem_of_getElem? (i := 74) (by decide +kernel), by decide⟩
theorem d_275_34 : decode (mC 275) 34 = .ok (.ixor, 1) := by decide +kernel
theorem d_275_35 : decode (mC 275) 35 = .ok (.iload_n 1, 1) := by decide +kernel
theorem d_275_36 : decode (mC 275) 36 = .ok (.if_icmp .eq 6, 3) := by decide +kernel
theorem d_275_42 : decode (mC 275) 42 = .ok (.iload_n 2, 1) := by decide +kernel
theorem d_275_43 : decode (mC 275) 43 = .ok (.ifCond .lt 40, 3) := by decide +kernel
theorem d_275_83 : decode (mC 275) 83 = .ok (.iload_n 3, 1) := by decide +kernel
theorem d_275_84 : decode (mC 275) 84 = .ok (.istore_n 2, 1) := by decide +kernel
theorem d_275_46 : decode (mC 275) 46 = .ok (.aload_n 0, 1) := by decide +kernel
theorem d_275_47 : decode (mC 275) 47 = .ok (.iload_n 3, 1) := by decide +kernel
theorem d_275_48 : decode (mC 275) 48 = .ok (.invokevirtual 448, 3) := by decide +kernel
theorem mo_276 : MOK 276 := ⟨List.mem_of_getElem? (i := 1820) (by decide +kernel), by decide +kernel, ⟨by decide +kernel, by decide +kernel⟩, List.mem_of_getElem? (i := 100) (by decide +kernel), by decide +kernel⟩
theorem m0_276 : M0K 276 := ⟨by decide +kernel, by decide +kernel⟩
theorem vk_275_448 : VK 275 448 276 1 12 := ⟨⟨List.mem_of_getElem? (i := 1817) (by decide +kernel), by decide +kernel⟩, List.mem_of_getElem? (i := 1819) (by decide +kernel), mo_276, m0_276, _, rfl, List.mem_of_getElem? (i := 77) (by decide +kernel), by decide⟩
theorem d_275_51 : decode (mC 275) 51 = .ok (.aload_n 0, 1) := by decide +kernel
theorem d_275_52 : decode (mC 275) 52 = .ok (.iload_n 2, 1) := by decide +kernel
theorem d_275_53 : decode (mC 275) 53 = .ok (.invokevirtual 448, 3) := by decide +kernel
theorem d_275_56 : decode (mC 275) 56 = .ok (.if_icmp .lt 27, 3) := by decide +kernel
theorem d_275_59 : decode (mC 275) 59 = .ok (.aload_n 0, 1) := by decide +kernel
theorem d_275_60 : decode (mC 275) 60 = .ok (.iload_n 3, 1) := by decide +kernel
theorem d_275_61 : decode (mC 275) 61 = .ok (.invokevirtual 448, 3) := by decide +kernel
theorem d_275_64 : decode (mC 275) 64 = .ok (.aload_n 0, 1) := by decide +kernel
theorem d_275_65 : decode (mC 275) 65 = .ok (.iload_n 2, 1) := by decide +kernel
theorem d_275_66 : decode (mC 275) 66 = .ok (.invokevirtual 448, 3) := by decide +kernel
theorem d_275_69 : decode (mC 275) 69 = .ok (.if_icmp .ne 16, 3) := by decide +kernel
theorem d_275_72 : decode (mC 275) 72 = .ok (.iload_n 3, 1) := by decide +kernel
theorem d_275_73 : decode (mC 275) 73 = .ok (.invokestatic 290, 3) := by decide +kernel
theorem sk_275_290 : SKc 275 290 250 1 := ⟨⟨List.mem_of_getElem? (i := 1717) (by decide +kernel), by decide +kernel⟩, List.mem_of_getElem? (i := 1718) (by decide +kernel), mo_250, m0_250⟩
theorem d_275_76 : decode (mC 275) 76 = .ok (.iload_n 2, 1) := by decide +kernel
theorem d_275_77 : decode (mC 275) 77 = .ok (.invokestatic 290, 3) := by decide +kernel
theorem d_275_80 : decode (mC 275) 80 = .ok (.if_icmp .ge 5, 3) := by decide +kernel
theorem d_275_39 : decode (mC 275) 39 = .ok (.goto 46, 3) := by decide +kernel
theorem d_275_0 : decode (mC 275) 0 = .ok (.iconst (-1), 1) := by decide +kernel
theorem d_275_1 : decode (mC 275) 1 = .ok (.istore_n 2, 1) := by decide +kernel
theorem d_275_2 : decode (mC 275) 2 = .ok (.iconst 0, 1) := by decide +kernel
theorem d_275_3 : decode (mC 275) 3 = .ok (.istore_n 3, 1) := by decide +kernel
theorem d_275_91 : decode (mC 275) 91 = .ok (.iload_n 2, 1) := by decide +kernel
theorem d_275_92 : decode (mC 275) 92 = .ok (.ireturn, 1) := by decide +kernel
theorem mr_275 : mR 275 = some .int := by decide +kernel
theorem d_274_0 : decode (mC 274) 0 = .ok (.aload_n 0, 1) := by decide +kernel
theorem d_274_1 : decode (mC 274) 1 = .ok (.iload_n 1, 1) := by decide +kernel
theorem d_274_2 : decode (mC 274) 2 = .ok (.invokevirtual 438, 3) := by decide +kernel
theorem vk_274_438 : VK 274 438 266 1 12 := ⟨⟨List.mem_of_getElem? (i := 1778) (by decide +kernel), by decide +kernel⟩, List.mem_of_getElem? (i := 1780) (by decide +kernel), mo_266, m0_266, _, rfl, List.mem_of_getElem? (i := 71) (by decide +kernel), by decide⟩
theorem d_274_5 : decode (mC 274) 5 = .ok (.ifCond .eq 12, 3) := by decide +kernel
theorem d_274_17 : decode (mC 274) 17 = .ok (.iconst (-1), 1) := by decide +kernel
theorem d_274_18 : decode (mC 274) 18 = .ok (.ireturn, 1) := by decide +kernel
theorem mr_274 : mR 274 = some .int := by decide +kernel
theorem d_274_8 : decode (mC 274) 8 = .ok (.iload_n 2, 1) := by decide +kernel
theorem d_274_9 : decode (mC 274) 9 = .ok (.iconst 0, 1) := by decide +kernel
theorem d_274_10 : decode (mC 274) 10 = .ok (.iconst 1, 1) := by decide +kernel
theorem d_274_11 : decode (mC 274) 11 = .ok (.invokestatic 399, 3) := by decide +kernel
theorem sk_274_399 : SKc 274 399 243 3 := ⟨⟨List.mem_of_getElem? (i := 1690) (by decide +kernel), by decide +kernel⟩, List.mem_of_getElem? (i := 1691) (by decide +kernel), mo_243, m0_243⟩
theorem d_274_14 : decode (mC 274) 14 = .ok (.ifCond .ne 5, 3) := by decide +kernel
theorem d_274_19 : decode (mC 274) 19 = .ok (.aload_n 0, 1) := by decide +kernel
theorem d_274_20 : decode (mC 274) 20 = .ok (.iload_n 1, 1) := by decide +kernel
theorem d_274_21 : decode (mC 274) 21 = .ok (.invokevirtual 451, 3) := by decide +kernel
theorem mo_275 : MOK 275 := ⟨List.mem_of_getElem? (i := 1816) (by decide +kernel), by decide +kernel, ⟨by decide +kernel, by decide +kernel⟩, List.mem_of_getElem? (i := 100) (by decide +kernel), by decide +kernel⟩
theorem m0_275 : M0K 275 := ⟨by decide +kernel, by decide +kernel⟩
theorem vk_274_451 : VK 274 451 275 1 12 := ⟨⟨List.mem_of_getElem? (i := 1813) (by decide +kernel), by decide +kernel⟩, List.mem_of_getElem? (i := 1815) (by decide +kernel), mo_275, m0_275, _, rfl, List.mem_of_getElem? (i := 76) (by decide +kernel), by decide⟩
theorem d_274_24 : decode (mC 274) 24 = .ok (.istore_n 3, 1) := by decide +kernel
theorem ml_274 : mL 274 = 4 := by decide +kernel
theorem d_274_25 : decode (mC 274) 25 = .ok (.iload_n 3, 1) := by decide +kernel
theorem d_274_26 : decode (mC 274) 26 = .ok (.ifCond .ge 7, 3) := by decide +kernel
theorem d_274_33 : decode (mC 274) 33 = .ok (.iload_n 2, 1) := by decide +kernel
theorem d_274_34 : decode (mC 274) 34 = .ok (.ifCond .ne 11, 3) := by decide +kernel
theorem d_274_45 : decode (mC 274) 45 = .ok (.iload_n 3, 1) := by decide +kernel
theorem d_274_46 : decode (mC 274) 46 = .ok (.ireturn, 1) := by decide +kernel
theorem d_274_37 : decode (mC 274) 37 = .ok (.aload_n 0, 1) := by decide +kernel
theorem d_274_38 : decode (mC 274) 38 = .ok (.iload_n 3, 1) := by decide +kernel
theorem d_274_39 : decode (mC 274) 39 = .ok (.invokevirtual 448, 3) := by decide +kernel
theorem vk_274_448 : VK 274 448 276 1 12 := ⟨⟨List.mem_of_getElem? (i := 1817) (by decide +kernel), by decide +kernel⟩, List.mem_of_getElem? (i := 1819) (by decide +kernel), mo_276, m0_276, _, rfl, List.mem_of_getElem? (i := 77) (by decide +kernel), by decide⟩
theorem d_274_42 : decode (mC 274) 42 = .ok (.goto 4, 3) := by decide +kernel
theorem d_274_29 : decode (mC 274) 29 = .ok (.iconst (-1), 1) := by decide +kernel
theorem d_274_30 : decode (mC 274) 30 = .ok (.goto 16, 3) := by decide +kernel
theorem d_277_0 : decode (mC 277) 0 = .ok (.iload_n 1, 1) := by decide +kernel
theorem d_277_1 : decode (mC 277) 1 = .ok (.iconst 0, 1) := by decide +kernel
theorem d_277_2 : decode (mC 277) 2 = .ok (.iconst 1, 1) := by decide +kernel
theorem d_277_3 : decode (mC 277) 3 = .ok (.invokestatic 399, 3) := by decide +kernel
theorem sk_277_399 : SKc 277 399 243 3 := ⟨⟨List.mem_of_getElem? (i := 1690) (by decide +kernel), by decide +kernel⟩, List.mem_of_getElem? (i := 1691) (by decide +kernel), mo_243, m0_243⟩
theorem d_277_6 : decode (mC 277) 6 = .ok (.ifCond .ne 5, 3) := by decide +kernel
theorem d_277_11 : decode (mC 277) 11 = .ok (.aload_n 0, 1) := by decide +kernel
theorem d_277_12 : decode (mC 277) 12 = .ok (.iconst 0, 1) := by decide +kernel
theorem d_277_13 : decode (mC 277) 13 = .ok (.iconst 1, 1) := by decide +kernel
theorem d_277_14 : decode (mC 277) 14 = .ok (.invokevirtual 444, 3) := by decide +kernel
theorem vk_277_444 : VK 277 444 273 2 12 := ⟨⟨List.mem_of_getElem? (i := 1805) (by decide +kernel), by decide +kernel⟩, List.mem_of_getElem? (i := 1807) (by decide +kernel), mo_273, m0_273, _, rfl, List.mem_of_getElem? (i := 75) (by decide +kernel), by decide⟩
theorem d_277_17 : decode (mC 277) 17 = .ok (.istore_n 2, 1) := by decide +kernel
theorem ml_277 : mL 277 = 3 := by decide +kernel
theorem d_277_18 : decode (mC 277) 18 = .ok (.iload_n 2, 1) := by decide +kernel
theorem d_277_19 : decode (mC 277) 19 = .ok (.ifCond .ge 7, 3) := by decide +kernel
theorem d_277_26 : decode (mC 277) 26 = .ok (.iload_n 1, 1) := by decide +kernel
theorem d_277_27 : decode (mC 277) 27 = .ok (.ifCond .ne 10, 3) := by decide +kernel
theorem d_277_37 : decode (mC 277) 37 = .ok (.iload_n 2, 1) := by decide +kernel
theorem d_277_38 : decode (mC 277) 38 = .ok (.ireturn, 1) := by decide +kernel
theorem mr_277 : mR 277 = some .int := by decide +kernel
theorem d_277_30 : decode (mC 277) 30 = .ok (.iload_n 2, 1) := by decide +kernel
theorem d_277_31 : decode (mC 277) 31 = .ok (.invokestatic 290, 3) := by decide +kernel
theorem sk_277_290 : SKc 277 290 250 1 := ⟨⟨List.mem_of_getElem? (i := 1717) (by decide +kernel), by decide +kernel⟩, List.mem_of_getElem? (i := 1718) (by decide +kernel), mo_250, m0_250⟩
theorem d_277_34 : decode (mC 277) 34 = .ok (.goto 4, 3) := by decide +kernel
theorem d_277_22 : decode (mC 277) 22 = .ok (.iconst (-1), 1) := by decide +kernel
theorem d_277_23 : decode (mC 277) 23 = .ok (.goto 15, 3) := by decide +kernel
theorem d_277_9 : decode (mC 277) 9 = .ok (.iconst (-1), 1) := by decide +kernel
theorem d_277_10 : decode (mC 277) 10 = .ok (.ireturn, 1) := by decide +kernel
theorem d_279_89 : decode (mC 279) 89 = .ok (.iload 4, 2) := by decide +kernel
theorem d_279_91 : decode (mC 279) 91 = .ok (.sipush 256, 3) := by decide +kernel
theorem d_279_94 : decode (mC 279) 94 = .ok (.if_icmp .ge 22, 3) := by decide +kernel
theorem d_279_97 : decode (mC 279) 97 = .ok (.iload_n 3, 1) := by decide +kernel
theorem d_279_98 : decode (mC 279) 98 = .ok (.aload_n 0, 1) := by decide +kernel
theorem d_279_99 : decode (mC 279) 99 = .ok (.getfield 72, 3) := by decide +kernel
theorem fk_CordLoftModel_72 : FK 2 "CordLoftModel" 72 12 55 := ⟨⟨_, rfl, by decide, List.mem_of_getElem? (i := 1346) (by decide +kernel)⟩, rfl, by decide⟩
theorem cn_279 : (mN 279).cls = "CordLoftModel" := by decide +kernel
theorem ft_13_55 : finT 13 55 = some (125, 0) := by decide +kernel
theorem k_125 : kd0 125 = 23 := by decide +kernel
theorem l_125 : ln0 125 = 256 := by decide +kernel
theorem d_279_102 : decode (mC 279) 102 = .ok (.iload 4, 2) := by decide +kernel
theorem d_279_104 : decode (mC 279) 104 = .ok (.baload, 1) := by decide +kernel
theorem d_279_105 : decode (mC 279) 105 = .ok (.invokestatic 283, 3) := by decide +kernel
theorem sk_279_283 : SKc 279 283 259 1 := ⟨⟨List.mem_of_getElem? (i := 1752) (by decide +kernel), by decide +kernel⟩, List.mem_of_getElem? (i := 1753) (by decide +kernel), mo_259, m0_259⟩
theorem d_279_108 : decode (mC 279) 108 = .ok (.iadd, 1) := by decide +kernel
theorem d_279_109 : decode (mC 279) 109 = .ok (.istore_n 3, 1) := by decide +kernel
theorem ml_279 : mL 279 = 5 := by decide +kernel
theorem d_279_110 : decode (mC 279) 110 = .ok (.iinc 4 1, 3) := by decide +kernel
theorem d_279_113 : decode (mC 279) 113 = .ok (.goto (-24), 3) := by decide +kernel
theorem d_279_24 : decode (mC 279) 24 = .ok (.iload_n 3, 1) := by decide +kernel
theorem d_279_25 : decode (mC 279) 25 = .ok (.iload_n 1, 1) := by decide +kernel
theorem d_279_26 : decode (mC 279) 26 = .ok (.if_icmp .gt 58, 3) := by decide +kernel
theorem d_279_29 : decode (mC 279) 29 = .ok (.iload_n 3, 1) := by decide +kernel
theorem d_279_30 : decode (mC 279) 30 = .ok (.iload_n 1, 1) := by decide +kernel
theorem d_279_31 : decode (mC 279) 31 = .ok (.invokestatic 432, 3) := by decide +kernel
theorem sk_279_432 : SKc 279 432 269 2 := ⟨⟨List.mem_of_getElem? (i := 1790) (by decide +kernel), by decide +kernel⟩, List.mem_of_getElem? (i := 1791) (by decide +kernel), mo_269, m0_269⟩
theorem d_279_34 : decode (mC 279) 34 = .ok (.ifCond .ne 6, 3) := by decide +kernel
theorem d_279_40 : decode (mC 279) 40 = .ok (.aload_n 0, 1) := by decide +kernel
theorem d_279_41 : decode (mC 279) 41 = .ok (.getfield 72, 3) := by decide +kernel
theorem d_279_44 : decode (mC 279) 44 = .ok (.aload_n 0, 1) := by decide +kernel
theorem d_279_45 : decode (mC 279) 45 = .ok (.getfield 66, 3) := by decide +kernel
theorem d_279_48 : decode (mC 279) 48 = .ok (.iconst 0, 1) := by decide +kernel
theorem d_279_49 : decode (mC 279) 49 = .ok (.iaload, 1) := by decide +kernel
theorem d_279_50 : decode (mC 279) 50 = .ok (.aload_n 0, 1) := by decide +kernel
theorem d_279_51 : decode (mC 279) 51 = .ok (.iload_n 3, 1) := by decide +kernel
theorem d_279_52 : decode (mC 279) 52 = .ok (.invokevirtual 435, 3) := by decide +kernel
theorem vk_279_435 : VK 279 435 270 1 12 := ⟨⟨List.mem_of_getElem? (i := 1793) (by decide +kernel), by decide +kernel⟩, List.mem_of_getElem? (i := 1795) (by decide +kernel), mo_270, m0_270, _, rfl, List.mem_of_getElem? (i := 74) (by decide +kernel), by decide⟩
theorem d_279_55 : decode (mC 279) 55 = .ok (.ixor, 1) := by decide +kernel
theorem d_279_56 : decode (mC 279) 56 = .ok (.iconst 1, 1) := by decide +kernel
theorem d_279_57 : decode (mC 279) 57 = .ok (.bastore, 1) := by decide +kernel
theorem d_279_58 : decode (mC 279) 58 = .ok (.aload_n 0, 1) := by decide +kernel
theorem d_279_59 : decode (mC 279) 59 = .ok (.getfield 72, 3) := by decide +kernel
theorem d_279_62 : decode (mC 279) 62 = .ok (.aload_n 0, 1) := by decide +kernel
theorem d_279_63 : decode (mC 279) 63 = .ok (.getfield 66, 3) := by decide +kernel
theorem d_279_66 : decode (mC 279) 66 = .ok (.iconst 0, 1) := by decide +kernel
theorem d_279_67 : decode (mC 279) 67 = .ok (.iaload, 1) := by decide +kernel
theorem d_279_68 : decode (mC 279) 68 = .ok (.aload_n 0, 1) := by decide +kernel
theorem d_279_69 : decode (mC 279) 69 = .ok (.iload_n 3, 1) := by decide +kernel
theorem d_279_70 : decode (mC 279) 70 = .ok (.invokevirtual 435, 3) := by decide +kernel
theorem d_279_73 : decode (mC 279) 73 = .ok (.ixor, 1) := by decide +kernel
theorem d_279_74 : decode (mC 279) 74 = .ok (.iload_n 2, 1) := by decide +kernel
theorem d_279_75 : decode (mC 279) 75 = .ok (.ixor, 1) := by decide +kernel
theorem d_279_76 : decode (mC 279) 76 = .ok (.iconst 1, 1) := by decide +kernel
theorem d_279_77 : decode (mC 279) 77 = .ok (.bastore, 1) := by decide +kernel
theorem d_279_78 : decode (mC 279) 78 = .ok (.iinc 3 1, 3) := by decide +kernel
theorem d_279_81 : decode (mC 279) 81 = .ok (.goto (-57), 3) := by decide +kernel
theorem d_279_37 : decode (mC 279) 37 = .ok (.goto 41, 3) := by decide +kernel
theorem d_279_2 : decode (mC 279) 2 = .ok (.iload_n 3, 1) := by decide +kernel
theorem d_279_3 : decode (mC 279) 3 = .ok (.sipush 256, 3) := by decide +kernel
theorem d_279_6 : decode (mC 279) 6 = .ok (.if_icmp .ge 16, 3) := by decide +kernel
theorem d_279_9 : decode (mC 279) 9 = .ok (.aload_n 0, 1) := by decide +kernel
theorem d_279_10 : decode (mC 279) 10 = .ok (.getfield 72, 3) := by decide +kernel
theorem d_279_13 : decode (mC 279) 13 = .ok (.iload_n 3, 1) := by decide +kernel
theorem d_279_14 : decode (mC 279) 14 = .ok (.iconst 0, 1) := by decide +kernel
theorem d_279_15 : decode (mC 279) 15 = .ok (.bastore, 1) := by decide +kernel
theorem d_279_16 : decode (mC 279) 16 = .ok (.iinc 3 1, 3) := by decide +kernel
theorem d_279_19 : decode (mC 279) 19 = .ok (.goto (-17), 3) := by decide +kernel
theorem d_279_0 : decode (mC 279) 0 = .ok (.iconst 0, 1) := by decide +kernel
theorem d_279_1 : decode (mC 279) 1 = .ok (.istore_n 3, 1) := by decide +kernel
theorem d_279_22 : decode (mC 279) 22 = .ok (.iconst 0, 1) := by decide +kernel
theorem d_279_23 : decode (mC 279) 23 = .ok (.istore_n 3, 1) := by decide +kernel
theorem d_279_84 : decode (mC 279) 84 = .ok (.iconst 0, 1) := by decide +kernel
theorem d_279_85 : decode (mC 279) 85 = .ok (.istore_n 3, 1) := by decide +kernel
theorem d_279_86 : decode (mC 279) 86 = .ok (.iconst 0, 1) := by decide +kernel
theorem d_279_87 : decode (mC 279) 87 = .ok (.istore 4, 2) := by decide +kernel
theorem d_279_116 : decode (mC 279) 116 = .ok (.iload_n 3, 1) := by decide +kernel
theorem d_279_117 : decode (mC 279) 117 = .ok (.ireturn, 1) := by decide +kernel
theorem mr_279 : mR 279 = some .int := by decide +kernel
theorem d_278_0 : decode (mC 278) 0 = .ok (.aload_n 0, 1) := by decide +kernel
theorem d_278_1 : decode (mC 278) 1 = .ok (.aload_n 0, 1) := by decide +kernel
theorem d_278_2 : decode (mC 278) 2 = .ok (.invokevirtual 429, 3) := by decide +kernel
theorem vk_278_429 : VK 278 429 268 0 12 := ⟨⟨List.mem_of_getElem? (i := 1786) (by decide +kernel), by decide +kernel⟩, List.mem_of_getElem? (i := 1788) (by decide +kernel), mo_268, m0_268, _, rfl, List.mem_of_getElem? (i := 73) (by decide +kernel), by decide⟩
theorem d_278_5 : decode (mC 278) 5 = .ok (.iconst 0, 1) := by decide +kernel
theorem d_278_6 : decode (mC 278) 6 = .ok (.invokevirtual 454, 3) := by decide +kernel
theorem mo_279 : MOK 279 := ⟨List.mem_of_getElem? (i := 1832) (by decide +kernel), by decide +kernel, ⟨by decide +kernel, by decide +kernel⟩, List.mem_of_getElem? (i := 100) (by decide +kernel), by decide +kernel⟩
theorem m0_279 : M0K 279 := ⟨by decide +kernel, by decide +kernel⟩
theorem vk_278_454 : VK 278 454 279 2 12 := ⟨⟨List.mem_of_getElem? (i := 1829) (by decide +kernel), by decide +kernel⟩, List.mem_of_getElem? (i := 1831) (by decide +kernel), mo_279, m0_279, _, rfl, List.mem_of_getElem? (i := 78) (by decide +kernel), by decide⟩
theorem d_278_9 : decode (mC 278) 9 = .ok (.ireturn, 1) := by decide +kernel
theorem mr_278 : mR 278 = some .int := by decide +kernel
theorem ml_278 : mL 278 = 1 := by decide +kernel
theorem d_281_0 : decode (mC 281) 0 = .ok (.aload_n 0, 1) := by decide +kernel
theorem d_281_1 : decode (mC 281) 1 = .ok (.aload_n 0, 1) := by decide +kernel
theorem d_281_2 : decode (mC 281) 2 = .ok (.invokevirtual 429, 3) := by decide +kernel
theorem vk_281_429 : VK 281 429 268 0 12 := ⟨⟨List.mem_of_getElem? (i := 1786) (by decide +kernel), by decide +kernel⟩, List.mem_of_getElem? (i := 1788) (by decide +kernel), mo_268, m0_268, _, rfl, List.mem_of_getElem? (i := 73) (by decide +kernel), by decide⟩
theorem d_281_5 : decode (mC 281) 5 = .ok (.iconst 1, 1) := by decide +kernel
theorem d_281_6 : decode (mC 281) 6 = .ok (.iload_n 1, 1) := by decide +kernel
theorem d_281_7 : decode (mC 281) 7 = .ok (.ishl, 1) := by decide +kernel
theorem d_281_8 : decode (mC 281) 8 = .ok (.iconst (-1), 1) := by decide +kernel
theorem d_281_9 : decode (mC 281) 9 = .ok (.ixor, 1) := by decide +kernel
theorem d_281_10 : decode (mC 281) 10 = .ok (.iand, 1) := by decide +kernel
theorem d_281_11 : decode (mC 281) 11 = .ok (.iconst 0, 1) := by decide +kernel
theorem d_281_12 : decode (mC 281) 12 = .ok (.invokevirtual 454, 3) := by decide +kernel
theorem vk_281_454 : VK 281 454 279 2 12 := ⟨⟨List.mem_of_getElem? (i := 1829) (by decide +kernel), by decide +kernel⟩, List.mem_of_getElem? (i := 1831) (by decide +kernel), mo_279, m0_279, _, rfl, List.mem_of_getElem? (i := 78) (by decide +kernel), by decide⟩
theorem d_281_15 : decode (mC 281) 15 = .ok (.ireturn, 1) := by decide +kernel
theorem mr_281 : mR 281 = some .int := by decide +kernel
theorem ml_281 : mL 281 = 2 := by decide +kernel
theorem d_280_40 : decode (mC 280) 40 = .ok (.invokestatic 283, 3) := by decide +kernel
theorem sk_280_283 : SKc 280 283 259 1 := ⟨⟨List.mem_of_getElem? (i := 1752) (by decide +kernel), by decide +kernel⟩, List.mem_of_getElem? (i := 1753) (by decide +kernel), mo_259, m0_259⟩
theorem d_280_43 : decode (mC 280) 43 = .ok (.iload_n 3, 1) := by decide +kernel
theorem d_280_44 : decode (mC 280) 44 = .ok (.ishl, 1) := by decide +kernel
theorem d_280_45 : decode (mC 280) 45 = .ok (.ior, 1) := by decide +kernel
theorem d_280_46 : decode (mC 280) 46 = .ok (.istore_n 2, 1) := by decide +kernel
theorem ml_280 : mL 280 = 4 := by decide +kernel
theorem d_280_47 : decode (mC 280) 47 = .ok (.iinc 3 1, 3) := by decide +kernel
theorem d_280_50 : decode (mC 280) 50 = .ok (.goto (-41), 3) := by decide +kernel
theorem d_280_39 : decode (mC 280) 39 = .ok (.iconst 0, 1) := by decide +kernel
theorem d_280_9 : decode (mC 280) 9 = .ok (.iload_n 3, 1) := by decide +kernel
theorem d_280_10 : decode (mC 280) 10 = .ok (.aload_n 0, 1) := by decide +kernel
theorem d_280_11 : decode (mC 280) 11 = .ok (.getfield 369, 3) := by decide +kernel
theorem cn_280 : (mN 280).cls = "CordLoftModel" := by decide +kernel
theorem d_280_14 : decode (mC 280) 14 = .ok (.if_icmp .ge 39, 3) := by decide +kernel
theorem d_280_17 : decode (mC 280) 17 = .ok (.iload_n 2, 1) := by decide +kernel
theorem d_280_18 : decode (mC 280) 18 = .ok (.aload_n 0, 1) := by decide +kernel
theorem d_280_19 : decode (mC 280) 19 = .ok (.iload_n 3, 1) := by decide +kernel
theorem d_280_20 : decode (mC 280) 20 = .ok (.invokevirtual 408, 3) := by decide +kernel
theorem vk_280_408 : VK 280 408 249 1 12 := ⟨⟨List.mem_of_getElem? (i := 1713) (by decide +kernel), by decide +kernel⟩, List.mem_of_getElem? (i := 1715) (by decide +kernel), mo_249, m0_249, _, rfl, List.mem_of_getElem? (i := 64) (by decide +kernel), by decide⟩
theorem d_280_23 : decode (mC 280) 23 = .ok (.ifCond .ne 16, 3) := by decide +kernel
theorem d_280_26 : decode (mC 280) 26 = .ok (.aload_n 0, 1) := by decide +kernel
theorem d_280_27 : decode (mC 280) 27 = .ok (.iload_n 3, 1) := by decide +kernel
theorem d_280_28 : decode (mC 280) 28 = .ok (.invokevirtual 460, 3) := by decide +kernel
theorem mo_281 : MOK 281 := ⟨List.mem_of_getElem? (i := 1841) (by decide +kernel), by decide +kernel, ⟨by decide +kernel, by decide +kernel⟩, List.mem_of_getElem? (i := 100) (by decide +kernel), by decide +kernel⟩
theorem m0_281 : M0K 281 := ⟨by decide +kernel, by decide +kernel⟩
theorem vk_280_460 : VK 280 460 281 1 12 := ⟨⟨List.mem_of_getElem? (i := 1838) (by decide +kernel), by decide +kernel⟩, List.mem_of_getElem? (i := 1840) (by decide +kernel), mo_281, m0_281, _, rfl, List.mem_of_getElem? (i := 79) (by decide +kernel), by decide⟩
theorem d_280_31 : decode (mC 280) 31 = .ok (.iload_n 1, 1) := by decide +kernel
theorem d_280_32 : decode (mC 280) 32 = .ok (.if_icmp .ne 7, 3) := by decide +kernel
theorem d_280_35 : decode (mC 280) 35 = .ok (.iconst 1, 1) := by decide +kernel
theorem d_280_36 : decode (mC 280) 36 = .ok (.goto 4, 3) := by decide +kernel
theorem d_280_0 : decode (mC 280) 0 = .ok (.aload_n 0, 1) := by decide +kernel
theorem d_280_1 : decode (mC 280) 1 = .ok (.invokevirtual 457, 3) := by decide +kernel
theorem mo_278 : MOK 278 := ⟨List.mem_of_getElem? (i := 1828) (by decide +kernel), by decide +kernel, ⟨by decide +kernel, by decide +kernel⟩, List.mem_of_getElem? (i := 100) (by decide +kernel), by decide +kernel⟩
theorem m0_278 : M0K 278 := ⟨by decide +kernel, by decide +kernel⟩
theorem vk_280_457 : VK 280 457 278 0 12 := ⟨⟨List.mem_of_getElem? (i := 1837) (by decide +kernel), by decide +kernel⟩, List.mem_of_getElem? (i := 1826) (by decide +kernel), mo_278, m0_278, _, rfl, List.mem_of_getElem? (i := 1827) (by decide +kernel), by decide⟩
theorem d_280_4 : decode (mC 280) 4 = .ok (.istore_n 1, 1) := by decide +kernel
theorem d_280_5 : decode (mC 280) 5 = .ok (.iconst 0, 1) := by decide +kernel
theorem d_280_6 : decode (mC 280) 6 = .ok (.istore_n 2, 1) := by decide +kernel
theorem d_280_7 : decode (mC 280) 7 = .ok (.iconst 0, 1) := by decide +kernel
theorem d_280_8 : decode (mC 280) 8 = .ok (.istore_n 3, 1) := by decide +kernel
theorem d_280_53 : decode (mC 280) 53 = .ok (.iload_n 2, 1) := by decide +kernel
theorem d_280_54 : decode (mC 280) 54 = .ok (.ireturn, 1) := by decide +kernel
theorem mr_280 : mR 280 = some .int := by decide +kernel
theorem d_282_0 : decode (mC 282) 0 = .ok (.aload_n 0, 1) := by decide +kernel
theorem d_282_1 : decode (mC 282) 1 = .ok (.iload_n 1, 1) := by decide +kernel
theorem d_282_2 : decode (mC 282) 2 = .ok (.invokevirtual 405, 3) := by decide +kernel
theorem vk_282_405 : VK 282 405 246 1 12 := ⟨⟨List.mem_of_getElem? (i := 1701) (by decide +kernel), by decide +kernel⟩, List.mem_of_getElem? (i := 1703) (by decide +kernel), mo_246, m0_246, _, rfl, List.mem_of_getElem? (i := 63) (by decide +kernel), by decide⟩
theorem d_282_5 : decode (mC 282) 5 = .ok (.ifCond .eq 24, 3) := by decide +kernel
theorem d_282_29 : decode (mC 282) 29 = .ok (.iconst (-1), 1) := by decide +kernel
theorem d_282_30 : decode (mC 282) 30 = .ok (.ireturn, 1) := by decide +kernel
theorem mr_282 : mR 282 = some .int := by decide +kernel
theorem d_282_8 : decode (mC 282) 8 = .ok (.aload_n 0, 1) := by decide +kernel
theorem d_282_9 : decode (mC 282) 9 = .ok (.iload_n 1, 1) := by decide +kernel
theorem d_282_10 : decode (mC 282) 10 = .ok (.invokevirtual 408, 3) := by decide +kernel
theorem vk_282_408 : VK 282 408 249 1 12 := ⟨⟨List.mem_of_getElem? (i := 1713) (by decide +kernel), by decide +kernel⟩, List.mem_of_getElem? (i := 1715) (by decide +kernel), mo_249, m0_249, _, rfl, List.mem_of_getElem? (i := 64) (by decide +kernel), by decide⟩
theorem d_282_13 : decode (mC 282) 13 = .ok (.ifCond .ne 16, 3) := by decide +kernel
theorem d_282_16 : decode (mC 282) 16 = .ok (.aload_n 0, 1) := by decide +kernel
theorem d_282_17 : decode (mC 282) 17 = .ok (.invokevirtual 457, 3) := by decide +kernel
theorem vk_282_457 : VK 282 457 278 0 12 := ⟨⟨List.mem_of_getElem? (i := 1837) (by decide +kernel), by decide +kernel⟩, List.mem_of_getElem? (i := 1826) (by decide +kernel), mo_278, m0_278, _, rfl, List.mem_of_getElem? (i := 1827) (by decide +kernel), by decide⟩
theorem d_282_20 : decode (mC 282) 20 = .ok (.aload_n 0, 1) := by decide +kernel
theorem d_282_21 : decode (mC 282) 21 = .ok (.iload_n 1, 1) := by decide +kernel
theorem d_282_22 : decode (mC 282) 22 = .ok (.invokevirtual 460, 3) := by decide +kernel
theorem vk_282_460 : VK 282 460 281 1 12 := ⟨⟨List.mem_of_getElem? (i := 1838) (by decide +kernel), by decide +kernel⟩, List.mem_of_getElem? (i := 1840) (by decide +kernel), mo_281, m0_281, _, rfl, List.mem_of_getElem? (i := 79) (by decide +kernel), by decide⟩
theorem d_282_25 : decode (mC 282) 25 = .ok (.isub, 1) := by decide +kernel
theorem d_282_26 : decode (mC 282) 26 = .ok (.goto 4, 3) := by decide +kernel
theorem ml_282 : mL 282 = 2 := by decide +kernel
theorem d_283_20 : decode (mC 283) 20 = .ok (.iload_n 3, 1) := by decide +kernel
theorem d_283_21 : decode (mC 283) 21 = .ok (.sipush 256, 3) := by decide +kernel
theorem d_283_24 : decode (mC 283) 24 = .ok (.if_icmp .ge 35, 3) := by decide +kernel
theorem d_283_27 : decode (mC 283) 27 = .ok (.aload_n 0, 1) := by decide +kernel
theorem d_283_28 : decode (mC 283) 28 = .ok (.getfield 72, 3) := by decide +kernel
theorem cn_283 : (mN 283).cls = "CordLoftModel" := by decide +kernel
theorem d_283_31 : decode (mC 283) 31 = .ok (.iload_n 3, 1) := by decide +kernel
theorem d_283_32 : decode (mC 283) 32 = .ok (.baload, 1) := by decide +kernel
theorem d_283_33 : decode (mC 283) 33 = .ok (.ifCond .eq 20, 3) := by decide +kernel
theorem d_283_53 : decode (mC 283) 53 = .ok (.iinc 3 1, 3) := by decide +kernel
theorem ml_283 : mL 283 = 4 := by decide +kernel
theorem d_283_56 : decode (mC 283) 56 = .ok (.goto (-36), 3) := by decide +kernel
theorem d_283_36 : decode (mC 283) 36 = .ok (.iload_n 2, 1) := by decide +kernel
theorem d_283_37 : decode (mC 283) 37 = .ok (.ifCond .lt 14, 3) := by decide +kernel
theorem d_283_51 : decode (mC 283) 51 = .ok (.iload_n 3, 1) := by decide +kernel
theorem d_283_52 : decode (mC 283) 52 = .ok (.istore_n 2, 1) := by decide +kernel
theorem d_283_40 : decode (mC 283) 40 = .ok (.iload_n 3, 1) := by decide +kernel
theorem d_283_41 : decode (mC 283) 41 = .ok (.invokestatic 290, 3) := by decide +kernel
theorem sk_283_290 : SKc 283 290 250 1 := ⟨⟨List.mem_of_getElem? (i := 1717) (by decide +kernel), by decide +kernel⟩, List.mem_of_getElem? (i := 1718) (by decide +kernel), mo_250, m0_250⟩
theorem d_283_44 : decode (mC 283) 44 = .ok (.iload_n 2, 1) := by decide +kernel
theorem d_283_45 : decode (mC 283) 45 = .ok (.invokestatic 290, 3) := by decide +kernel
theorem d_283_48 : decode (mC 283) 48 = .ok (.if_icmp .le 5, 3) := by decide +kernel
theorem d_283_0 : decode (mC 283) 0 = .ok (.iload_n 1, 1) := by decide +kernel
theorem d_283_1 : decode (mC 283) 1 = .ok (.iconst 0, 1) := by decide +kernel
theorem d_283_2 : decode (mC 283) 2 = .ok (.iconst 1, 1) := by decide +kernel
theorem d_283_3 : decode (mC 283) 3 = .ok (.invokestatic 399, 3) := by decide +kernel
theorem sk_283_399 : SKc 283 399 243 3 := ⟨⟨List.mem_of_getElem? (i := 1690) (by decide +kernel), by decide +kernel⟩, List.mem_of_getElem? (i := 1691) (by decide +kernel), mo_243, m0_243⟩
theorem d_283_6 : decode (mC 283) 6 = .ok (.ifCond .ne 5, 3) := by decide +kernel
theorem d_283_11 : decode (mC 283) 11 = .ok (.aload_n 0, 1) := by decide +kernel
theorem d_283_12 : decode (mC 283) 12 = .ok (.invokevirtual 457, 3) := by decide +kernel
theorem vk_283_457 : VK 283 457 278 0 12 := ⟨⟨List.mem_of_getElem? (i := 1837) (by decide +kernel), by decide +kernel⟩, List.mem_of_getElem? (i := 1826) (by decide +kernel), mo_278, m0_278, _, rfl, List.mem_of_getElem? (i := 1827) (by decide +kernel), by decide⟩
theorem d_283_15 : decode (mC 283) 15 = .ok (.pop, 1) := by decide +kernel
theorem d_283_16 : decode (mC 283) 16 = .ok (.iconst (-1), 1) := by decide +kernel
theorem d_283_17 : decode (mC 283) 17 = .ok (.istore_n 2, 1) := by decide +kernel
theorem d_283_18 : decode (mC 283) 18 = .ok (.iconst 0, 1) := by decide +kernel
theorem d_283_19 : decode (mC 283) 19 = .ok (.istore_n 3, 1) := by decide +kernel
theorem d_283_59 : decode (mC 283) 59 = .ok (.iload_n 1, 1) := by decide +kernel
theorem d_283_60 : decode (mC 283) 60 = .ok (.ifCond .ne 10, 3) := by decide +kernel
theorem d_283_70 : decode (mC 283) 70 = .ok (.iload_n 2, 1) := by decide +kernel
theorem d_283_71 : decode (mC 283) 71 = .ok (.ireturn, 1) := by decide +kernel
theorem mr_283 : mR 283 = some .int := by decide +kernel
theorem d_283_63 : decode (mC 283) 63 = .ok (.iload_n 2, 1) := by decide +kernel
theorem d_283_64 : decode (mC 283) 64 = .ok (.invokestatic 290, 3) := by decide +kernel
theorem d_283_67 : decode (mC 283) 67 = .ok (.goto 4, 3) := by decide +kernel
theorem d_283_9 : decode (mC 283) 9 = .ok (.iconst (-1), 1) := by decide +kernel
theorem d_283_10 : decode (mC 283) 10 = .ok (.ireturn, 1) := by decide +kernel
theorem d_285_4 : decode (mC 285) 4 = .ok (.iload_n 3, 1) := by decide +kernel
theorem d_285_5 : decode (mC 285) 5 = .ok (.aload_n 0, 1) := by decide +kernel
theorem d_285_6 : decode (mC 285) 6 = .ok (.getfield 303, 3) := by decide +kernel
theorem cn_285 : (mN 285).cls = "CordLoftModel" := by decide +kernel
theorem d_285_9 : decode (mC 285) 9 = .ok (.if_icmp .ge 30, 3) := by decide +kernel
theorem d_285_12 : decode (mC 285) 12 = .ok (.iload_n 2, 1) := by decide +kernel
theorem d_285_13 : decode (mC 285) 13 = .ok (.iload_n 1, 1) := by decide +kernel
theorem d_285_14 : decode (mC 285) 14 = .ok (.iload_n 3, 1) := by decide +kernel
theorem d_285_15 : decode (mC 285) 15 = .ok (.invokestatic 326, 3) := by decide +kernel
theorem sk_285_326 : SKc 285 326 225 2 := ⟨⟨List.mem_of_getElem? (i := 1620) (by decide +kernel), by decide +kernel⟩, List.mem_of_getElem? (i := 1621) (by decide +kernel), mo_225, m0_225⟩
theorem d_285_18 : decode (mC 285) 18 = .ok (.ifCond .eq 12, 3) := by decide +kernel
theorem d_285_30 : decode (mC 285) 30 = .ok (.iconst 0, 1) := by decide +kernel
theorem d_285_31 : decode (mC 285) 31 = .ok (.iadd, 1) := by decide +kernel
theorem d_285_32 : decode (mC 285) 32 = .ok (.istore_n 2, 1) := by decide +kernel
theorem ml_285 : mL 285 = 4 := by decide +kernel
theorem d_285_33 : decode (mC 285) 33 = .ok (.iinc 3 1, 3) := by decide +kernel
theorem d_285_36 : decode (mC 285) 36 = .ok (.goto (-32), 3) := by decide +kernel
theorem d_285_21 : decode (mC 285) 21 = .ok (.aload_n 0, 1) := by decide +kernel
theorem d_285_22 : decode (mC 285) 22 = .ok (.getfield 54, 3) := by decide +kernel
theorem d_285_25 : decode (mC 285) 25 = .ok (.iload_n 3, 1) := by decide +kernel
theorem d_285_26 : decode (mC 285) 26 = .ok (.iaload, 1) := by decide +kernel
theorem d_285_27 : decode (mC 285) 27 = .ok (.goto 4, 3) := by decide +kernel
theorem d_285_0 : decode (mC 285) 0 = .ok (.iconst 0, 1) := by decide +kernel
theorem d_285_1 : decode (mC 285) 1 = .ok (.istore_n 2, 1) := by decide +kernel
theorem d_285_2 : decode (mC 285) 2 = .ok (.iconst 0, 1) := by decide +kernel
theorem d_285_3 : decode (mC 285) 3 = .ok (.istore_n 3, 1) := by decide +kernel
theorem d_285_39 : decode (mC 285) 39 = .ok (.iload_n 2, 1) := by decide +kernel
theorem d_285_40 : decode (mC 285) 40 = .ok (.ireturn, 1) := by decide +kernel
theorem mr_285 : mR 285 = some .int := by decide +kernel
theorem d_284_20 : decode (mC 284) 20 = .ok (.iload_n 3, 1) := by decide +kernel
theorem d_284_21 : decode (mC 284) 21 = .ok (.sipush 256, 3) := by decide +kernel
theorem d_284_24 : decode (mC 284) 24 = .ok (.if_icmp .ge 37, 3) := by decide +kernel
theorem d_284_27 : decode (mC 284) 27 = .ok (.aload_n 0, 1) := by decide +kernel
theorem d_284_28 : decode (mC 284) 28 = .ok (.getfield 72, 3) := by decide +kernel
theorem cn_284 : (mN 284).cls = "CordLoftModel" := by decide +kernel
theorem d_284_31 : decode (mC 284) 31 = .ok (.iload_n 3, 1) := by decide +kernel
theorem d_284_32 : decode (mC 284) 32 = .ok (.baload, 1) := by decide +kernel
theorem d_284_33 : decode (mC 284) 33 = .ok (.ifCond .eq 22, 3) := by decide +kernel
theorem d_284_55 : decode (mC 284) 55 = .ok (.iinc 3 1, 3) := by decide +kernel
theorem ml_284 : mL 284 = 4 := by decide +kernel
theorem d_284_58 : decode (mC 284) 58 = .ok (.goto (-38), 3) := by decide +kernel
theorem d_284_36 : decode (mC 284) 36 = .ok (.iload_n 2, 1) := by decide +kernel
theorem d_284_37 : decode (mC 284) 37 = .ok (.ifCond .lt 16, 3) := by decide +kernel
theorem d_284_53 : decode (mC 284) 53 = .ok (.iload_n 3, 1) := by decide +kernel
theorem d_284_54 : decode (mC 284) 54 = .ok (.istore_n 2, 1) := by decide +kernel
theorem d_284_40 : decode (mC 284) 40 = .ok (.aload_n 0, 1) := by decide +kernel
theorem d_284_41 : decode (mC 284) 41 = .ok (.iload_n 3, 1) := by decide +kernel
theorem d_284_42 : decode (mC 284) 42 = .ok (.invokevirtual 463, 3) := by decide +kernel
theorem mo_285 : MOK 285 := ⟨List.mem_of_getElem? (i := 1857) (by decide +kernel), by decide +kernel, ⟨by decide +kernel, by decide +kernel⟩, List.mem_of_getElem? (i := 100) (by decide +kernel), by decide +kernel⟩
theorem m0_285 : M0K 285 := ⟨by decide +kernel, by decide +kernel⟩
theorem vk_284_463 : VK 284 463 285 1 12 := ⟨⟨List.mem_of_getElem? (i := 1854) (by decide +kernel), by decide +kernel⟩, List.mem_of_getElem? (i := 1856) (by decide +kernel), mo_285, m0_285, _, rfl, List.mem_of_getElem? (i := 80) (by decide +kernel), by decide⟩
theorem d_284_45 : decode (mC 284) 45 = .ok (.aload_n 0, 1) := by decide +kernel
theorem d_284_46 : decode (mC 284) 46 = .ok (.iload_n 2, 1) := by decide +kernel
theorem d_284_47 : decode (mC 284) 47 = .ok (.invokevirtual 463, 3) := by decide +kernel
theorem d_284_50 : decode (mC 284) 50 = .ok (.if_icmp .ge 5, 3) := by decide +kernel
theorem d_284_0 : decode (mC 284) 0 = .ok (.iload_n 1, 1) := by decide +kernel
theorem d_284_1 : decode (mC 284) 1 = .ok (.iconst 0, 1) := by decide +kernel
theorem d_284_2 : decode (mC 284) 2 = .ok (.iconst 1, 1) := by decide +kernel
theorem d_284_3 : decode (mC 284) 3 = .ok (.invokestatic 399, 3) := by decide +kernel
theorem sk_284_399 : SKc 284 399 243 3 := ⟨⟨List.mem_of_getElem? (i := 1690) (by decide +kernel), by decide +kernel⟩, List.mem_of_getElem? (i := 1691) (by decide +kernel), mo_243, m0_243⟩
theorem d_284_6 : decode (mC 284) 6 = .ok (.ifCond .ne 5, 3) := by decide +kernel
theorem d_284_11 : decode (mC 284) 11 = .ok (.aload_n 0, 1) := by decide +kernel
theorem d_284_12 : decode (mC 284) 12 = .ok (.invokevirtual 457, 3) := by decide +kernel
theorem vk_284_457 : VK 284 457 278 0 12 := ⟨⟨List.mem_of_getElem? (i := 1837) (by decide +kernel), by decide +kernel⟩, List.mem_of_getElem? (i := 1826) (by decide +kernel), mo_278, m0_278, _, rfl, List.mem_of_getElem? (i := 1827) (by decide +kernel), by decide⟩
theorem d_284_15 : decode (mC 284) 15 = .ok (.pop, 1) := by decide +kernel
theorem d_284_16 : decode (mC 284) 16 = .ok (.iconst (-1), 1) := by decide +kernel
theorem d_284_17 : decode (mC 284) 17 = .ok (.istore_n 2, 1) := by decide +kernel
theorem d_284_18 : decode (mC 284) 18 = .ok (.iconst 0, 1) := by decide +kernel
theorem d_284_19 : decode (mC 284) 19 = .ok (.istore_n 3, 1) := by decide +kernel
theorem d_284_61 : decode (mC 284) 61 = .ok (.iload_n 1, 1) := by decide +kernel
theorem d_284_62 : decode (mC 284) 62 = .ok (.ifCond .ne 11, 3) := by decide +kernel
theorem d_284_73 : decode (mC 284) 73 = .ok (.iload_n 2, 1) := by decide +kernel
theorem d_284_74 : decode (mC 284) 74 = .ok (.ireturn, 1) := by decide +kernel
theorem mr_284 : mR 284 = some .int := by decide +kernel
theorem d_284_65 : decode (mC 284) 65 = .ok (.aload_n 0, 1) := by decide +kernel
theorem d_284_66 : decode (mC 284) 66 = .ok (.iload_n 2, 1) := by decide +kernel
theorem d_284_67 : decode (mC 284) 67 = .ok (.invokevirtual 463, 3) := by decide +kernel
theorem d_284_70 : decode (mC 284) 70 = .ok (.goto 4, 3) := by decide +kernel
theorem d_284_9 : decode (mC 284) 9 = .ok (.iconst (-1), 1) := by decide +kernel
theorem d_284_10 : decode (mC 284) 10 = .ok (.ireturn, 1) := by decide +kernel
theorem d_286_29 : decode (mC 286) 29 = .ok (.iload 4, 2) := by decide +kernel
theorem d_286_31 : decode (mC 286) 31 = .ok (.sipush 256, 3) := by decide +kernel
theorem d_286_34 : decode (mC 286) 34 = .ok (.if_icmp .ge 42, 3) := by decide +kernel
theorem d_286_37 : decode (mC 286) 37 = .ok (.aload_n 0, 1) := by decide +kernel
theorem d_286_38 : decode (mC 286) 38 = .ok (.getfield 72, 3) := by decide +kernel
theorem cn_286 : (mN 286).cls = "CordLoftModel" := by decide +kernel
theorem d_286_41 : decode (mC 286) 41 = .ok (.iload 4, 2) := by decide +kernel
theorem d_286_43 : decode (mC 286) 43 = .ok (.baload, 1) := by decide +kernel
theorem d_286_44 : decode (mC 286) 44 = .ok (.ifCond .eq 26, 3) := by decide +kernel
theorem d_286_70 : decode (mC 286) 70 = .ok (.iinc 4 1, 3) := by decide +kernel
theorem ml_286 : mL 286 = 5 := by decide +kernel
theorem d_286_73 : decode (mC 286) 73 = .ok (.goto (-44), 3) := by decide +kernel
theorem d_286_47 : decode (mC 286) 47 = .ok (.iload_n 3, 1) := by decide +kernel
theorem d_286_48 : decode (mC 286) 48 = .ok (.ifCond .lt 19, 3) := by decide +kernel
theorem d_286_67 : decode (mC 286) 67 = .ok (.iload 4, 2) := by decide +kernel
theorem d_286_69 : decode (mC 286) 69 = .ok (.istore_n 3, 1) := by decide +kernel
theorem d_286_51 : decode (mC 286) 51 = .ok (.iload 4, 2) := by decide +kernel
theorem d_286_53 : decode (mC 286) 53 = .ok (.iload_n 1, 1) := by decide +kernel
theorem d_286_54 : decode (mC 286) 54 = .ok (.ixor, 1) := by decide +kernel
theorem d_286_55 : decode (mC 286) 55 = .ok (.invokestatic 290, 3) := by decide +kernel
theorem sk_286_290 : SKc 286 290 250 1 := ⟨⟨List.mem_of_getElem? (i := 1717) (by decide +kernel), by decide +kernel⟩, List.mem_of_getElem? (i := 1718) (by decide +kernel), mo_250, m0_250⟩
theorem d_286_58 : decode (mC 286) 58 = .ok (.iload_n 3, 1) := by decide +kernel
theorem d_286_59 : decode (mC 286) 59 = .ok (.iload_n 1, 1) := by decide +kernel
theorem d_286_60 : decode (mC 286) 60 = .ok (.ixor, 1) := by decide +kernel
theorem d_286_61 : decode (mC 286) 61 = .ok (.invokestatic 290, 3) := by decide +kernel
theorem d_286_64 : decode (mC 286) 64 = .ok (.if_icmp .ge 6, 3) := by decide +kernel
theorem d_286_0 : decode (mC 286) 0 = .ok (.aload_n 0, 1) := by decide +kernel
theorem d_286_1 : decode (mC 286) 1 = .ok (.iload_n 1, 1) := by decide +kernel
theorem d_286_2 : decode (mC 286) 2 = .ok (.invokevirtual 438, 3) := by decide +kernel
theorem vk_286_438 : VK 286 438 266 1 12 := ⟨⟨List.mem_of_getElem? (i := 1778) (by decide +kernel), by decide +kernel⟩, List.mem_of_getElem? (i := 1780) (by decide +kernel), mo_266, m0_266, _, rfl, List.mem_of_getElem? (i := 71) (by decide +kernel), by decide⟩
theorem d_286_5 : decode (mC 286) 5 = .ok (.ifCond .eq 12, 3) := by decide +kernel
theorem d_286_17 : decode (mC 286) 17 = .ok (.iconst (-1), 1) := by decide +kernel
theorem d_286_18 : decode (mC 286) 18 = .ok (.ireturn, 1) := by decide +kernel
theorem mr_286 : mR 286 = some .int := by decide +kernel
theorem d_286_8 : decode (mC 286) 8 = .ok (.iload_n 2, 1) := by decide +kernel
theorem d_286_9 : decode (mC 286) 9 = .ok (.iconst 0, 1) := by decide +kernel
theorem d_286_10 : decode (mC 286) 10 = .ok (.iconst 1, 1) := by decide +kernel
theorem d_286_11 : decode (mC 286) 11 = .ok (.invokestatic 399, 3) := by decide +kernel
theorem sk_286_399 : SKc 286 399 243 3 := ⟨⟨List.mem_of_getElem? (i := 1690) (by decide +kernel), by decide +kernel⟩, List.mem_of_getElem? (i := 1691) (by decide +kernel), mo_243, m0_243⟩
theorem d_286_14 : decode (mC 286) 14 = .ok (.ifCond .ne 5, 3) := by decide +kernel
theorem d_286_19 : decode (mC 286) 19 = .ok (.aload_n 0, 1) := by decide +kernel
theorem d_286_20 : decode (mC 286) 20 = .ok (.invokevirtual 457, 3) := by decide +kernel
theorem vk_286_457 : VK 286 457 278 0 12 := ⟨⟨List.mem_of_getElem? (i := 1837) (by decide +kernel), by decide +kernel⟩, List.mem_of_getElem? (i := 1826) (by decide +kernel), mo_278, m0_278, _, rfl, List.mem_of_getElem? (i := 1827) (by decide +kernel), by decide⟩
theorem d_286_23 : decode (mC 286) 23 = .ok (.pop, 1) := by decide +kernel
theorem d_286_24 : decode (mC 286) 24 = .ok (.iconst (-1), 1) := by decide +kernel
theorem d_286_25 : decode (mC 286) 25 = .ok (.istore_n 3, 1) := by decide +kernel
theorem d_286_26 : decode (mC 286) 26 = .ok (.iconst 0, 1) := by decide +kernel
theorem d_286_27 : decode (mC 286) 27 = .ok (.istore 4, 2) := by decide +kernel
theorem d_286_76 : decode (mC 286) 76 = .ok (.iload_n 2, 1) := by decide +kernel
theorem d_286_77 : decode (mC 286) 77 = .ok (.ifCond .ne 12, 3) := by decide +kernel
theorem d_286_89 : decode (mC 286) 89 = .ok (.iload_n 3, 1) := by decide +kernel
theorem d_286_90 : decode (mC 286) 90 = .ok (.ireturn, 1) := by decide +kernel
theorem d_286_80 : decode (mC 286) 80 = .ok (.iload_n 3, 1) := by decide +kernel
theorem d_286_81 : decode (mC 286) 81 = .ok (.iload_n 1, 1) := by decide +kernel
theorem d_286_82 : decode (mC 286) 82 = .ok (.ixor, 1) := by decide +kernel
theorem d_286_83 : decode (mC 286) 83 = .ok (.invokestatic 290, 3) := by decide +kernel
theorem d_286_86 : decode (mC 286) 86 = .ok (.goto 4, 3) := by decide +kernel
theorem d_287_20 : decode (mC 287) 20 = .ok (.iload_n 3, 1) := by decide +kernel
theorem d_287_21 : decode (mC 287) 21 = .ok (.sipush 256, 3) := by decide +kernel
theorem d_287_24 : decode (mC 287) 24 = .ok (.if_icmp .ge 42, 3) := by decide +kernel
theorem d_287_27 : decode (mC 287) 27 = .ok (.aload_n 0, 1) := by decide +kernel
theorem d_287_28 : decode (mC 287) 28 = .ok (.getfield 72, 3) := by decide +kernel
theorem cn_287 : (mN 287).cls = "CordLoftModel" := by decide +kernel
theorem d_287_31 : decode (mC 287) 31 = .ok (.aload_n 0, 1) := by decide +kernel
theorem d_287_32 : decode (mC 287) 32 = .ok (.getfield 66, 3) := by decide +kernel
theorem d_287_35 : decode (mC 287) 35 = .ok (.iconst 0, 1) := by decide +kernel
theorem d_287_36 : decode (mC 287) 36 = .ok (.iaload, 1) := by decide +kernel
theorem d_287_37 : decode (mC 287) 37 = .ok (.iload_n 3, 1) := by decide +kernel
theorem d_287_38 : decode (mC 287) 38 = .ok (.ixor, 1) := by decide +kernel
theorem d_287_39 : decode (mC 287) 39 = .ok (.baload, 1) := by decide +kernel
theorem d_287_40 : decode (mC 287) 40 = .ok (.ifCond .eq 20, 3) := by decide +kernel
theorem d_287_60 : decode (mC 287) 60 = .ok (.iinc 3 1, 3) := by decide +kernel
theorem ml_287 : mL 287 = 4 := by decide +kernel
theorem d_287_63 : decode (mC 287) 63 = .ok (.goto (-43), 3) := by decide +kernel
theorem d_287_43 : decode (mC 287) 43 = .ok (.iload_n 2, 1) := by decide +kernel
theorem d_287_44 : decode (mC 287) 44 = .ok (.ifCond .lt 14, 3) := by decide +kernel
theorem d_287_58 : decode (mC 287) 58 = .ok (.iload_n 3, 1) := by decide +kernel
theorem d_287_59 : decode (mC 287) 59 = .ok (.istore_n 2, 1) := by decide +kernel
theorem d_287_47 : decode (mC 287) 47 = .ok (.iload_n 3, 1) := by decide +kernel
theorem d_287_48 : decode (mC 287) 48 = .ok (.invokestatic 290, 3) := by decide +kernel
theorem sk_287_290 : SKc 287 290 250 1 := ⟨⟨List.mem_of_getElem? (i := 1717) (by decide +kernel), by decide +kernel⟩, List.mem_of_getElem? (i := 1718) (by decide +kernel), mo_250, m0_250⟩
theorem d_287_51 : decode (mC 287) 51 = .ok (.iload_n 2, 1) := by decide +kernel
theorem d_287_52 : decode (mC 287) 52 = .ok (.invokestatic 290, 3) := by decide +kernel
theorem d_287_55 : decode (mC 287) 55 = .ok (.if_icmp .ge 5, 3) := by decide +kernel
theorem d_287_0 : decode (mC 287) 0 = .ok (.iload_n 1, 1) := by decide +kernel
theorem d_287_1 : decode (mC 287) 1 = .ok (.iconst 0, 1) := by decide +kernel
theorem d_287_2 : decode (mC 287) 2 = .ok (.iconst 1, 1) := by decide +kernel
theorem d_287_3 : decode (mC 287) 3 = .ok (.invokestatic 399, 3) := by decide +kernel
theorem sk_287_399 : SKc 287 399 243 3 := ⟨⟨List.mem_of_getElem? (i := 1690) (by decide +kernel), by decide +kernel⟩, List.mem_of_getElem? (i := 1691) (by decide +kernel), mo_243, m0_243⟩
theorem d_287_6 : decode (mC 287) 6 = .ok (.ifCond .ne 5, 3) := by decide +kernel
theorem d_287_11 : decode (mC 287) 11 = .ok (.aload_n 0, 1) := by decide +kernel
theorem d_287_12 : decode (mC 287) 12 = .ok (.invokevirtual 457, 3) := by decide +kernel
theorem vk_287_457 : VK 287 457 278 0 12 := ⟨⟨List.mem_of_getElem? (i := 1837) (by decide +kernel), by decide +kernel⟩, List.mem_of_getElem? (i := 1826) (by decide +kernel), mo_278, m0_278, _, rfl, List.mem_of_getElem? (i := 1827) (by decide +kernel), by decide⟩
theorem d_287_15 : decode (mC 287) 15 = .ok (.pop, 1) := by decide +kernel
theorem d_287_16 : decode (mC 287) 16 = .ok (.iconst (-1), 1) := by decide +kernel
theorem d_287_17 : decode (mC 287) 17 = .ok (.istore_n 2, 1) := by decide +kernel
theorem d_287_18 : decode (mC 287) 18 = .ok (.iconst 1, 1) := by decide +kernel
theorem d_287_19 : decode (mC 287) 19 = .ok (.istore_n 3, 1) := by decide +kernel
theorem d_287_66 : decode (mC 287) 66 = .ok (.iload_n 2, 1) := by decide +kernel
theorem d_287_67 : decode (mC 287) 67 = .ok (.ifCond .ge 7, 3) := by decide +kernel
theorem d_287_74 : decode (mC 287) 74 = .ok (.iload_n 1, 1) := by decide +kernel
theorem d_287_75 : decode (mC 287) 75 = .ok (.ifCond .ne 10, 3) := by decide +kernel
theorem d_287_85 : decode (mC 287) 85 = .ok (.iload_n 2, 1) := by decide +kernel
theorem d_287_86 : decode (mC 287) 86 = .ok (.ireturn, 1) := by decide +kernel
theorem mr_287 : mR 287 = some .int := by decide +kernel
theorem d_287_78 : decode (mC 287) 78 = .ok (.iload_n 2, 1) := by decide +kernel
theorem d_287_79 : decode (mC 287) 79 = .ok (.invokestatic 290, 3) := by decide +kernel
theorem d_287_82 : decode (mC 287) 82 = .ok (.goto 4, 3) := by decide +kernel
theorem d_287_70 : decode (mC 287) 70 = .ok (.iconst (-1), 1) := by decide +kernel
theorem d_287_71 : decode (mC 287) 71 = .ok (.goto 15, 3) := by decide +kernel
theorem d_287_9 : decode (mC 287) 9 = .ok (.iconst (-1), 1) := by decide +kernel
theorem d_287_10 : decode (mC 287) 10 = .ok (.ireturn, 1) := by decide +kernel
theorem d_288_71 : decode (mC 288) 71 = .ok (.iconst 1, 1) := by decide +kernel
theorem d_288_72 : decode (mC 288) 72 = .ok (.goto 4, 3) := by decide +kernel
theorem d_288_76 : decode (mC 288) 76 = .ok (.istore 4, 2) := by decide +kernel
theorem ml_288 : mL 288 = 6 := by decide +kernel
theorem d_288_78 : decode (mC 288) 78 = .ok (.iinc 5 1, 3) := by decide +kernel
theorem d_288_81 : decode (mC 288) 81 = .ok (.goto (-50), 3) := by decide +kernel
theorem d_288_31 : decode (mC 288) 31 = .ok (.iload 5, 2) := by decide +kernel
theorem d_288_33 : decode (mC 288) 33 = .ok (.aload_n 0, 1) := by decide +kernel
theorem d_288_34 : decode (mC 288) 34 = .ok (.getfield 369, 3) := by decide +kernel
theorem cn_288 : (mN 288).cls = "CordLoftModel" := by decide +kernel
theorem d_288_37 : decode (mC 288) 37 = .ok (.if_icmp .ge 47, 3) := by decide +kernel
theorem d_288_40 : decode (mC 288) 40 = .ok (.iload 4, 2) := by decide +kernel
theorem d_288_42 : decode (mC 288) 42 = .ok (.ifCond .eq 33, 3) := by decide +kernel
theorem d_288_75 : decode (mC 288) 75 = .ok (.iconst 0, 1) := by decide +kernel
theorem d_288_45 : decode (mC 288) 45 = .ok (.aload_n 0, 1) := by decide +kernel
theorem d_288_46 : decode (mC 288) 46 = .ok (.iload 5, 2) := by decide +kernel
theorem d_288_48 : decode (mC 288) 48 = .ok (.invokevirtual 408, 3) := by decide +kernel
theorem vk_288_408 : VK 288 408 249 1 12 := ⟨⟨List.mem_of_getElem? (i := 1713) (by decide +kernel), by decide +kernel⟩, List.mem_of_getElem? (i := 1715) (by decide +kernel), mo_249, m0_249, _, rfl, List.mem_of_getElem? (i := 64) (by decide +kernel), by decide⟩
theorem d_288_51 : decode (mC 288) 51 = .ok (.ifCond .ne 20, 3) := by decide +kernel
theorem d_288_54 : decode (mC 288) 54 = .ok (.iload_n 3, 1) := by decide +kernel
theorem d_288_55 : decode (mC 288) 55 = .ok (.aload_n 0, 1) := by decide +kernel
theorem d_288_56 : decode (mC 288) 56 = .ok (.getfield 60, 3) := by decide +kernel
theorem d_288_59 : decode (mC 288) 59 = .ok (.iload 5, 2) := by decide +kernel
theorem d_288_61 : decode (mC 288) 61 = .ok (.iaload, 1) := by decide +kernel
theorem d_288_62 : decode (mC 288) 62 = .ok (.iand, 1) := by decide +kernel
theorem d_288_63 : decode (mC 288) 63 = .ok (.invokestatic 290, 3) := by decide +kernel
theorem sk_288_290 : SKc 288 290 250 1 := ⟨⟨List.mem_of_getElem? (i := 1717) (by decide +kernel), by decide +kernel⟩, List.mem_of_getElem? (i := 1718) (by decide +kernel), mo_250, m0_250⟩
theorem d_288_66 : decode (mC 288) 66 = .ok (.iconst 2, 1) := by decide +kernel
theorem d_288_67 : decode (mC 288) 67 = .ok (.irem, 1) := by decide +kernel
theorem d_288_68 : decode (mC 288) 68 = .ok (.ifCond .ne 7, 3) := by decide +kernel
theorem d_288_15 : decode (mC 288) 15 = .ok (.iload_n 3, 1) := by decide +kernel
theorem d_288_16 : decode (mC 288) 16 = .ok (.iconst 1, 1) := by decide +kernel
theorem d_288_17 : decode (mC 288) 17 = .ok (.aload_n 0, 1) := by decide +kernel
theorem d_288_18 : decode (mC 288) 18 = .ok (.getfield 303, 3) := by decide +kernel
theorem d_288_21 : decode (mC 288) 21 = .ok (.ishl, 1) := by decide +kernel
theorem d_288_22 : decode (mC 288) 22 = .ok (.if_icmp .ge 90, 3) := by decide +kernel
theorem d_288_25 : decode (mC 288) 25 = .ok (.iconst 1, 1) := by decide +kernel
theorem d_288_26 : decode (mC 288) 26 = .ok (.istore 4, 2) := by decide +kernel
theorem d_288_28 : decode (mC 288) 28 = .ok (.iconst 0, 1) := by decide +kernel
theorem d_288_29 : decode (mC 288) 29 = .ok (.istore 5, 2) := by decide +kernel
theorem d_288_84 : decode (mC 288) 84 = .ok (.iload 4, 2) := by decide +kernel
theorem d_288_86 : decode (mC 288) 86 = .ok (.ifCond .eq 20, 3) := by decide +kernel
theorem d_288_106 : decode (mC 288) 106 = .ok (.iinc 3 1, 3) := by decide +kernel
theorem d_288_109 : decode (mC 288) 109 = .ok (.goto (-94), 3) := by decide +kernel
theorem d_288_89 : decode (mC 288) 89 = .ok (.iload_n 2, 1) := by decide +kernel
theorem d_288_90 : decode (mC 288) 90 = .ok (.ifCond .lt 14, 3) := by decide +kernel
theorem d_288_104 : decode (mC 288) 104 = .ok (.iload_n 3, 1) := by decide +kernel
theorem d_288_105 : decode (mC 288) 105 = .ok (.istore_n 2, 1) := by decide +kernel
theorem d_288_93 : decode (mC 288) 93 = .ok (.iload_n 3, 1) := by decide +kernel
theorem d_288_94 : decode (mC 288) 94 = .ok (.invokestatic 290, 3) := by decide +kernel
theorem d_288_97 : decode (mC 288) 97 = .ok (.iload_n 2, 1) := by decide +kernel
theorem d_288_98 : decode (mC 288) 98 = .ok (.invokestatic 290, 3) := by decide +kernel
theorem d_288_101 : decode (mC 288) 101 = .ok (.if_icmp .ge 5, 3) := by decide +kernel
theorem d_288_0 : decode (mC 288) 0 = .ok (.iload_n 1, 1) := by decide +kernel
theorem d_288_1 : decode (mC 288) 1 = .ok (.iconst 0, 1) := by decide +kernel
theorem d_288_2 : decode (mC 288) 2 = .ok (.iconst 1, 1) := by decide +kernel
theorem d_288_3 : decode (mC 288) 3 = .ok (.invokestatic 399, 3) := by decide +kernel
theorem sk_288_399 : SKc 288 399 243 3 := ⟨⟨List.mem_of_getElem? (i := 1690) (by decide +kernel), by decide +kernel⟩, List.mem_of_getElem? (i := 1691) (by decide +kernel), mo_243, m0_243⟩
theorem d_288_6 : decode (mC 288) 6 = .ok (.ifCond .ne 5, 3) := by decide +kernel
theorem d_288_11 : decode (mC 288) 11 = .ok (.iconst (-1), 1) := by decide +kernel
theorem d_288_12 : decode (mC 288) 12 = .ok (.istore_n 2, 1) := by decide +kernel
theorem d_288_13 : decode (mC 288) 13 = .ok (.iconst 1, 1) := by decide +kernel
theorem d_288_14 : decode (mC 288) 14 = .ok (.istore_n 3, 1) := by decide +kernel
theorem d_288_112 : decode (mC 288) 112 = .ok (.iload_n 2, 1) := by decide +kernel
theorem d_288_113 : decode (mC 288) 113 = .ok (.ifCond .ge 7, 3) := by decide +kernel
theorem d_288_120 : decode (mC 288) 120 = .ok (.iload_n 1, 1) := by decide +kernel
theorem d_288_121 : decode (mC 288) 121 = .ok (.ifCond .ne 10, 3) := by decide +kernel
theorem d_288_131 : decode (mC 288) 131 = .ok (.iload_n 2, 1) := by decide +kernel
theorem d_288_132 : decode (mC 288) 132 = .ok (.ireturn, 1) := by decide +kernel
theorem mr_288 : mR 288 = some .int := by decide +kernel
theorem d_288_124 : decode (mC 288) 124 = .ok (.iload_n 2, 1) := by decide +kernel
theorem d_288_125 : decode (mC 288) 125 = .ok (.invokestatic 290, 3) := by decide +kernel
theorem d_288_128 : decode (mC 288) 128 = .ok (.goto 4, 3) := by decide +kernel
theorem d_288_116 : decode (mC 288) 116 = .ok (.iconst (-1), 1) := by decide +kernel
theorem d_288_117 : decode (mC 288) 117 = .ok (.goto 15, 3) := by decide +kernel
theorem d_288_9 : decode (mC 288) 9 = .ok (.iconst (-1), 1) := by decide +kernel
theorem d_288_10 : decode (mC 288) 10 = .ok (.ireturn, 1) := by decide +kernel
theorem d_290_100 : decode (mC 290) 100 = .ok (.iload 4, 2) := by decide +kernel
theorem d_290_102 : decode (mC 290) 102 = .ok (.aload_n 0, 1) := by decide +kernel
theorem d_290_103 : decode (mC 290) 103 = .ok (.getfield 369, 3) := by decide +kernel
theorem cn_290 : (mN 290).cls = "CordLoftModel" := by decide +kernel
theorem d_290_106 : decode (mC 290) 106 = .ok (.if_icmp .ge 69, 3) := by decide +kernel
theorem d_290_109 : decode (mC 290) 109 = .ok (.iload_n 3, 1) := by decide +kernel
theorem d_290_110 : decode (mC 290) 110 = .ok (.aload_n 0, 1) := by decide +kernel
theorem d_290_111 : decode (mC 290) 111 = .ok (.getfield 60, 3) := by decide +kernel
theorem d_290_114 : decode (mC 290) 114 = .ok (.iload 4, 2) := by decide +kernel
theorem d_290_116 : decode (mC 290) 116 = .ok (.iaload, 1) := by decide +kernel
theorem d_290_117 : decode (mC 290) 117 = .ok (.ixor, 1) := by decide +kernel
theorem d_290_118 : decode (mC 290) 118 = .ok (.istore 5, 2) := by decide +kernel
theorem ml_290 : mL 290 = 6 := by decide +kernel
theorem d_290_120 : decode (mC 290) 120 = .ok (.aload_n 0, 1) := by decide +kernel
theorem d_290_121 : decode (mC 290) 121 = .ok (.iload 4, 2) := by decide +kernel
theorem d_290_123 : decode (mC 290) 123 = .ok (.invokevirtual 408, 3) := by decide +kernel
theorem vk_290_408 : VK 290 408 249 1 12 := ⟨⟨List.mem_of_getElem? (i := 1713) (by decide +kernel), by decide +kernel⟩, List.mem_of_getElem? (i := 1715) (by decide +kernel), mo_249, m0_249, _, rfl, List.mem_of_getElem? (i := 64) (by decide +kernel), by decide⟩
theorem d_290_126 : decode (mC 290) 126 = .ok (.ifCond .ne 43, 3) := by decide +kernel
theorem d_290_169 : decode (mC 290) 169 = .ok (.iinc 4 1, 3) := by decide +kernel
theorem d_290_172 : decode (mC 290) 172 = .ok (.goto (-72), 3) := by decide +kernel
theorem d_290_129 : decode (mC 290) 129 = .ok (.aload_n 0, 1) := by decide +kernel
theorem d_290_130 : decode (mC 290) 130 = .ok (.getfield 79, 3) := by decide +kernel
theorem fk_CordLoftModel_79 : FK 2 "CordLoftModel" 79 12 57 := ⟨⟨_, rfl, by decide, List.mem_of_getElem? (i := 1348) (by decide +kernel)⟩, rfl, by decide⟩
theorem ft_13_57 : finT 13 57 = some (127, 0) := by decide +kernel
theorem k_127 : kd0 127 = 20 := by decide +kernel
theorem l_127 : ln0 127 = 256 := by decide +kernel
theorem d_290_133 : decode (mC 290) 133 = .ok (.iload 5, 2) := by decide +kernel
theorem d_290_135 : decode (mC 290) 135 = .ok (.iaload, 1) := by decide +kernel
theorem d_290_136 : decode (mC 290) 136 = .ok (.iload_n 2, 1) := by decide +kernel
theorem d_290_137 : decode (mC 290) 137 = .ok (.if_icmp .gt 6, 3) := by decide +kernel
theorem d_290_143 : decode (mC 290) 143 = .ok (.aload_n 0, 1) := by decide +kernel
theorem d_290_144 : decode (mC 290) 144 = .ok (.getfield 79, 3) := by decide +kernel
theorem d_290_147 : decode (mC 290) 147 = .ok (.iload 5, 2) := by decide +kernel
theorem d_290_149 : decode (mC 290) 149 = .ok (.iload_n 2, 1) := by decide +kernel
theorem d_290_150 : decode (mC 290) 150 = .ok (.iconst 1, 1) := by decide +kernel
theorem d_290_151 : decode (mC 290) 151 = .ok (.iadd, 1) := by decide +kernel
theorem d_290_152 : decode (mC 290) 152 = .ok (.iastore, 1) := by decide +kernel
theorem d_290_153 : decode (mC 290) 153 = .ok (.aload_n 0, 1) := by decide +kernel
theorem d_290_154 : decode (mC 290) 154 = .ok (.getfield 82, 3) := by decide +kernel
theorem fk_CordLoftModel_82 : FK 2 "CordLoftModel" 82 12 58 := ⟨⟨_, rfl, by decide, List.mem_of_getElem? (i := 1349) (by decide +kernel)⟩, rfl, by decide⟩
theorem ft_13_58 : finT 13 58 = some (128, 0) := by decide +kernel
theorem k_128 : kd0 128 = 20 := by decide +kernel
theorem l_128 : ln0 128 = 256 := by decide +kernel
theorem d_290_157 : decode (mC 290) 157 = .ok (.iload 5, 2) := by decide +kernel
theorem d_290_159 : decode (mC 290) 159 = .ok (.dup2, 1) := by decide +kernel
theorem d_290_160 : decode (mC 290) 160 = .ok (.iaload, 1) := by decide +kernel
theorem d_290_161 : decode (mC 290) 161 = .ok (.aload_n 0, 1) := by decide +kernel
theorem d_290_162 : decode (mC 290) 162 = .ok (.getfield 82, 3) := by decide +kernel
theorem d_290_165 : decode (mC 290) 165 = .ok (.iload_n 3, 1) := by decide +kernel
theorem d_290_166 : decode (mC 290) 166 = .ok (.iaload, 1) := by decide +kernel
theorem d_290_167 : decode (mC 290) 167 = .ok (.iadd, 1) := by decide +kernel
theorem d_290_168 : decode (mC 290) 168 = .ok (.iastore, 1) := by decide +kernel
theorem d_290_140 : decode (mC 290) 140 = .ok (.goto 29, 3) := by decide +kernel
theorem d_290_63 : decode (mC 290) 63 = .ok (.iload_n 3, 1) := by decide +kernel
theorem d_290_64 : decode (mC 290) 64 = .ok (.iconst 1, 1) := by decide +kernel
theorem d_290_65 : decode (mC 290) 65 = .ok (.aload_n 0, 1) := by decide +kernel
theorem d_290_66 : decode (mC 290) 66 = .ok (.getfield 303, 3) := by decide +kernel
theorem d_290_69 : decode (mC 290) 69 = .ok (.ishl, 1) := by decide +kernel
theorem d_290_70 : decode (mC 290) 70 = .ok (.if_icmp .ge 111, 3) := by decide +kernel
theorem d_290_73 : decode (mC 290) 73 = .ok (.aload_n 0, 1) := by decide +kernel
theorem d_290_74 : decode (mC 290) 74 = .ok (.getfield 79, 3) := by decide +kernel
theorem d_290_77 : decode (mC 290) 77 = .ok (.iload_n 3, 1) := by decide +kernel
theorem d_290_78 : decode (mC 290) 78 = .ok (.iaload, 1) := by decide +kernel
theorem d_290_79 : decode (mC 290) 79 = .ok (.iload_n 2, 1) := by decide +kernel
theorem d_290_80 : decode (mC 290) 80 = .ok (.if_icmp .ne 95, 3) := by decide +kernel
theorem d_290_175 : decode (mC 290) 175 = .ok (.iinc 3 1, 3) := by decide +kernel
theorem d_290_178 : decode (mC 290) 178 = .ok (.goto (-115), 3) := by decide +kernel
theorem d_290_83 : decode (mC 290) 83 = .ok (.iload_n 3, 1) := by decide +kernel
theorem d_290_84 : decode (mC 290) 84 = .ok (.invokestatic 290, 3) := by decide +kernel
theorem sk_290_290 : SKc 290 290 250 1 := ⟨⟨List.mem_of_getElem? (i := 1717) (by decide +kernel), by decide +kernel⟩, List.mem_of_getElem? (i := 1718) (by decide +kernel), mo_250, m0_250⟩
theorem d_290_87 : decode (mC 290) 87 = .ok (.aload_n 0, 1) := by decide +kernel
theorem d_290_88 : decode (mC 290) 88 = .ok (.getfield 375, 3) := by decide +kernel
theorem d_290_91 : decode (mC 290) 91 = .ok (.if_icmp .ge 6, 3) := by decide +kernel
theorem d_290_97 : decode (mC 290) 97 = .ok (.iconst 0, 1) := by decide +kernel
theorem d_290_98 : decode (mC 290) 98 = .ok (.istore 4, 2) := by decide +kernel
theorem d_290_94 : decode (mC 290) 94 = .ok (.goto 81, 3) := by decide +kernel
theorem d_290_54 : decode (mC 290) 54 = .ok (.iload_n 2, 1) := by decide +kernel
theorem d_290_55 : decode (mC 290) 55 = .ok (.sipush 256, 3) := by decide +kernel
theorem d_290_58 : decode (mC 290) 58 = .ok (.if_icmp .ge 129, 3) := by decide +kernel
theorem d_290_61 : decode (mC 290) 61 = .ok (.iconst 0, 1) := by decide +kernel
theorem d_290_62 : decode (mC 290) 62 = .ok (.istore_n 3, 1) := by decide +kernel
theorem d_290_181 : decode (mC 290) 181 = .ok (.iinc 2 1, 3) := by decide +kernel
theorem d_290_184 : decode (mC 290) 184 = .ok (.goto (-130), 3) := by decide +kernel
theorem d_290_42 : decode (mC 290) 42 = .ok (.invokestatic 283, 3) := by decide +kernel
theorem sk_290_283 : SKc 290 283 259 1 := ⟨⟨List.mem_of_getElem? (i := 1752) (by decide +kernel), by decide +kernel⟩, List.mem_of_getElem? (i := 1753) (by decide +kernel), mo_259, m0_259⟩
theorem d_290_45 : decode (mC 290) 45 = .ok (.iastore, 1) := by decide +kernel
theorem d_290_46 : decode (mC 290) 46 = .ok (.iinc 2 1, 3) := by decide +kernel
theorem d_290_49 : decode (mC 290) 49 = .ok (.goto (-47), 3) := by decide +kernel
theorem d_290_26 : decode (mC 290) 26 = .ok (.iastore, 1) := by decide +kernel
theorem d_290_27 : decode (mC 290) 27 = .ok (.aload_n 0, 1) := by decide +kernel
theorem d_290_28 : decode (mC 290) 28 = .ok (.getfield 82, 3) := by decide +kernel
theorem d_290_31 : decode (mC 290) 31 = .ok (.iload_n 2, 1) := by decide +kernel
theorem d_290_32 : decode (mC 290) 32 = .ok (.iload_n 2, 1) := by decide +kernel
theorem d_290_33 : decode (mC 290) 33 = .ok (.iload_n 1, 1) := by decide +kernel
theorem d_290_34 : decode (mC 290) 34 = .ok (.if_icmp .ne 7, 3) := by decide +kernel
theorem d_290_41 : decode (mC 290) 41 = .ok (.iconst 0, 1) := by decide +kernel
theorem d_290_37 : decode (mC 290) 37 = .ok (.iconst 1, 1) := by decide +kernel
theorem d_290_38 : decode (mC 290) 38 = .ok (.goto 4, 3) := by decide +kernel
theorem d_290_2 : decode (mC 290) 2 = .ok (.iload_n 2, 1) := by decide +kernel
theorem d_290_3 : decode (mC 290) 3 = .ok (.sipush 256, 3) := by decide +kernel
theorem d_290_6 : decode (mC 290) 6 = .ok (.if_icmp .ge 46, 3) := by decide +kernel
theorem d_290_9 : decode (mC 290) 9 = .ok (.aload_n 0, 1) := by decide +kernel
theorem d_290_10 : decode (mC 290) 10 = .ok (.getfield 79, 3) := by decide +kernel
theorem d_290_13 : decode (mC 290) 13 = .ok (.iload_n 2, 1) := by decide +kernel
theorem d_290_14 : decode (mC 290) 14 = .ok (.iload_n 2, 1) := by decide +kernel
theorem d_290_15 : decode (mC 290) 15 = .ok (.iload_n 1, 1) := by decide +kernel
theorem d_290_16 : decode (mC 290) 16 = .ok (.if_icmp .ne 7, 3) := by decide +kernel
theorem d_290_23 : decode (mC 290) 23 = .ok (.ldc_w 466, 3) := by decide +kernel
theorem cw_CordLoftModel_466 : Cond.constant "CordLoftModel" 466 1000000 ∈ lw_tbl := List.mem_of_getElem? (i := 1878) (by decide +kernel)
theorem d_290_19 : decode (mC 290) 19 = .ok (.iconst 0, 1) := by decide +kernel
theorem d_290_20 : decode (mC 290) 20 = .ok (.goto 6, 3) := by decide +kernel
theorem d_290_0 : decode (mC 290) 0 = .ok (.iconst 0, 1) := by decide +kernel
theorem d_290_1 : decode (mC 290) 1 = .ok (.istore_n 2, 1) := by decide +kernel
theorem d_290_52 : decode (mC 290) 52 = .ok (.iconst 0, 1) := by decide +kernel
theorem d_290_53 : decode (mC 290) 53 = .ok (.istore_n 2, 1) := by decide +kernel
theorem d_290_187 : decode (mC 290) 187 = .ok (.return_, 1) := by decide +kernel
theorem mr_290 : mR 290 = none := by decide +kernel
theorem d_289_48 : decode (mC 289) 48 = .ok (.aload_n 0, 1) := by decide +kernel
theorem d_289_49 : decode (mC 289) 49 = .ok (.iload_n 3, 1) := by decide +kernel
theorem d_289_50 : decode (mC 289) 50 = .ok (.invokevirtual 408, 3) := by decide +kernel
theorem vk_289_408 : VK 289 408 249 1 12 := ⟨⟨List.mem_of_getElem? (i := 1713) (by decide +kernel), by decide +kernel⟩, List.mem_of_getElem? (i := 1715) (by decide +kernel), mo_249, m0_249, _, rfl, List.mem_of_getElem? (i := 64) (by decide +kernel), by decide⟩
theorem d_289_53 : decode (mC 289) 53 = .ok (.ifCond .ne 45, 3) := by decide +kernel
theorem d_289_98 : decode (mC 289) 98 = .ok (.iinc 3 1, 3) := by decide +kernel
theorem ml_289 : mL 289 = 4 := by decide +kernel
theorem d_289_101 : decode (mC 289) 101 = .ok (.goto (-53), 3) := by decide +kernel
theorem d_289_56 : decode (mC 289) 56 = .ok (.aload_n 0, 1) := by decide +kernel
theorem d_289_57 : decode (mC 289) 57 = .ok (.getfield 79, 3) := by decide +kernel
theorem cn_289 : (mN 289).cls = "CordLoftModel" := by decide +kernel
theorem d_289_60 : decode (mC 289) 60 = .ok (.iload_n 2, 1) := by decide +kernel
theorem d_289_61 : decode (mC 289) 61 = .ok (.aload_n 0, 1) := by decide +kernel
theorem d_289_62 : decode (mC 289) 62 = .ok (.getfield 60, 3) := by decide +kernel
theorem d_289_65 : decode (mC 289) 65 = .ok (.iload_n 3, 1) := by decide +kernel
theorem d_289_66 : decode (mC 289) 66 = .ok (.iaload, 1) := by decide +kernel
theorem d_289_67 : decode (mC 289) 67 = .ok (.ixor, 1) := by decide +kernel
theorem d_289_68 : decode (mC 289) 68 = .ok (.iaload, 1) := by decide +kernel
theorem d_289_69 : decode (mC 289) 69 = .ok (.aload_n 0, 1) := by decide +kernel
theorem d_289_70 : decode (mC 289) 70 = .ok (.getfield 79, 3) := by decide +kernel
theorem d_289_73 : decode (mC 289) 73 = .ok (.iload_n 2, 1) := by decide +kernel
theorem d_289_74 : decode (mC 289) 74 = .ok (.iaload, 1) := by decide +kernel
theorem d_289_75 : decode (mC 289) 75 = .ok (.iconst 1, 1) := by decide +kernel
theorem d_289_76 : decode (mC 289) 76 = .ok (.isub, 1) := by decide +kernel
theorem d_289_77 : decode (mC 289) 77 = .ok (.if_icmp .ne 21, 3) := by decide +kernel
theorem d_289_80 : decode (mC 289) 80 = .ok (.iload_n 2, 1) := by decide +kernel
theorem d_289_81 : decode (mC 289) 81 = .ok (.aload_n 0, 1) := by decide +kernel
theorem d_289_82 : decode (mC 289) 82 = .ok (.getfield 60, 3) := by decide +kernel
theorem d_289_85 : decode (mC 289) 85 = .ok (.iload_n 3, 1) := by decide +kernel
theorem d_289_86 : decode (mC 289) 86 = .ok (.iaload, 1) := by decide +kernel
theorem d_289_87 : decode (mC 289) 87 = .ok (.ixor, 1) := by decide +kernel
theorem d_289_88 : decode (mC 289) 88 = .ok (.invokestatic 290, 3) := by decide +kernel
theorem sk_289_290 : SKc 289 290 250 1 := ⟨⟨List.mem_of_getElem? (i := 1717) (by decide +kernel), by decide +kernel⟩, List.mem_of_getElem? (i := 1718) (by decide +kernel), mo_250, m0_250⟩
theorem d_289_91 : decode (mC 289) 91 = .ok (.aload_n 0, 1) := by decide +kernel
theorem d_289_92 : decode (mC 289) 92 = .ok (.getfield 375, 3) := by decide +kernel
theorem d_289_95 : decode (mC 289) 95 = .ok (.if_icmp .ge 9, 3) := by decide +kernel
theorem d_289_41 : decode (mC 289) 41 = .ok (.iload_n 2, 1) := by decide +kernel
theorem d_289_42 : decode (mC 289) 42 = .ok (.iload_n 1, 1) := by decide +kernel
theorem d_289_43 : decode (mC 289) 43 = .ok (.if_icmp .eq 93, 3) := by decide +kernel
theorem d_289_46 : decode (mC 289) 46 = .ok (.iconst 0, 1) := by decide +kernel
theorem d_289_47 : decode (mC 289) 47 = .ok (.istore_n 3, 1) := by decide +kernel
theorem d_289_104 : decode (mC 289) 104 = .ok (.aload_n 0, 1) := by decide +kernel
theorem d_289_105 : decode (mC 289) 105 = .ok (.getfield 76, 3) := by decide +kernel
theorem fk_CordLoftModel_76 : FK 2 "CordLoftModel" 76 12 56 := ⟨⟨_, rfl, by decide, List.mem_of_getElem? (i := 1347) (by decide +kernel)⟩, rfl, by decide⟩
theorem ft_13_56 : finT 13 56 = some (126, 0) := by decide +kernel
theorem k_126 : kd0 126 = 20 := by decide +kernel
theorem l_126 : ln0 126 = 256 := by decide +kernel
theorem d_289_108 : decode (mC 289) 108 = .ok (.aload_n 0, 1) := by decide +kernel
theorem d_289_109 : decode (mC 289) 109 = .ok (.getfield 396, 3) := by decide +kernel
theorem fk_CordLoftModel_396 : FK 0 "CordLoftModel" 396 12 59 := ⟨⟨_, rfl, by decide, List.mem_of_getElem? (i := 1350) (by decide +kernel)⟩, rfl, by decide⟩
theorem d_289_112 : decode (mC 289) 112 = .ok (.iload_n 3, 1) := by decide +kernel
theorem d_289_113 : decode (mC 289) 113 = .ok (.iastore, 1) := by decide +kernel
theorem d_289_114 : decode (mC 289) 114 = .ok (.aload_n 0, 1) := by decide +kernel
theorem d_289_115 : decode (mC 289) 115 = .ok (.dup, 1) := by decide +kernel
theorem d_289_116 : decode (mC 289) 116 = .ok (.getfield 396, 3) := by decide +kernel
theorem d_289_119 : decode (mC 289) 119 = .ok (.iconst 1, 1) := by decide +kernel
theorem d_289_120 : decode (mC 289) 120 = .ok (.iadd, 1) := by decide +kernel
theorem d_289_121 : decode (mC 289) 121 = .ok (.putfield 396, 3) := by decide +kernel
theorem d_289_124 : decode (mC 289) 124 = .ok (.iload_n 2, 1) := by decide +kernel
theorem d_289_125 : decode (mC 289) 125 = .ok (.aload_n 0, 1) := by decide +kernel
theorem d_289_126 : decode (mC 289) 126 = .ok (.getfield 60, 3) := by decide +kernel
theorem d_289_129 : decode (mC 289) 129 = .ok (.iload_n 3, 1) := by decide +kernel
theorem d_289_130 : decode (mC 289) 130 = .ok (.iaload, 1) := by decide +kernel
theorem d_289_131 : decode (mC 289) 131 = .ok (.ixor, 1) := by decide +kernel
theorem d_289_132 : decode (mC 289) 132 = .ok (.istore_n 2, 1) := by decide +kernel
theorem d_289_133 : decode (mC 289) 133 = .ok (.goto (-92), 3) := by decide +kernel
theorem d_289_0 : decode (mC 289) 0 = .ok (.aload_n 0, 1) := by decide +kernel
