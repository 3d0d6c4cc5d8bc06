theorem d_187_35 : decode (mC 187) 35 = .ok (.iload_n 1, 1) := by decide +kernel
theorem d_187_36 : decode (mC 187) 36 = .ok (.if_icmp .gt 7, 3) := by decide +kernel
theorem d_187_39 : decode (mC 187) 39 = .ok (.iconst 1, 1) := by decide +kernel
theorem d_187_40 : decode (mC 187) 40 = .ok (.goto 4, 3) := by decide +kernel
theorem d_187_0 : decode (mC 187) 0 = .ok (.aload_n 0, 1) := by decide +kernel
theorem d_187_1 : decode (mC 187) 1 = .ok (.iconst 0, 1) := by decide +kernel
theorem d_187_2 : decode (mC 187) 2 = .ok (.putfield 33, 3) := by decide +kernel
theorem d_187_5 : decode (mC 187) 5 = .ok (.aload_n 0, 1) := by decide +kernel
theorem d_187_6 : decode (mC 187) 6 = .ok (.iconst 0, 1) := by decide +kernel
theorem d_187_7 : decode (mC 187) 7 = .ok (.putfield 36, 3) := by decide +kernel
theorem d_187_10 : decode (mC 187) 10 = .ok (.iconst 0, 1) := by decide +kernel
theorem d_187_11 : decode (mC 187) 11 = .ok (.istore_n 2, 1) := by decide +kernel
theorem d_187_123 : decode (mC 187) 123 = .ok (.return_, 1) := by decide +kernel
theorem mr_187 : mR 187 = none := by decide +kernel
theorem d_189_0 : decode (mC 189) 0 = .ok (.aload_n 1, 1) := by decide +kernel
theorem d_189_1 : decode (mC 189) 1 = .ok (.getfield 39, 3) := by decide +kernel
theorem fk_CordLoft_Sight_39 : FK 0 "CordLoft$Sight" 39 4 1 := ⟨⟨_, rfl, by decide, List.mem_of_getElem? (i := 235) (by decide +kernel)⟩, rfl, by decide⟩
theorem cn_189 : (mN 189).cls = "CordLoft$Sight" := by decide +kernel
theorem d_189_4 : decode (mC 189) 4 = .ok (.aload_n 1, 1) := by decide +kernel
theorem d_189_5 : decode (mC 189) 5 = .ok (.getfield 43, 3) := by decide +kernel
theorem fk_CordLoft_Sight_43 : FK 2 "CordLoft$Sight" 43 4 10 := ⟨⟨_, rfl, by decide, List.mem_of_getElem? (i := 262) (by decide +kernel)⟩, rfl, by decide⟩
theorem d_189_8 : decode (mC 189) 8 = .ok (.iload_n 2, 1) := by decide +kernel
theorem d_189_9 : decode (mC 189) 9 = .ok (.iaload, 1) := by decide +kernel
theorem d_189_10 : decode (mC 189) 10 = .ok (.ixor, 1) := by decide +kernel
theorem d_189_11 : decode (mC 189) 11 = .ok (.istore_n 3, 1) := by decide +kernel
theorem ml_189 : mL 189 = 4 := by decide +kernel
theorem d_189_12 : decode (mC 189) 12 = .ok (.iload_n 3, 1) := by decide +kernel
theorem d_189_13 : decode (mC 189) 13 = .ok (.aload_n 0, 1) := by decide +kernel
theorem d_189_14 : decode (mC 189) 14 = .ok (.getfield 33, 3) := by decide +kernel
theorem d_189_17 : decode (mC 189) 17 = .ok (.iand, 1) := by decide +kernel
theorem d_189_18 : decode (mC 189) 18 = .ok (.aload_n 0, 1) := by decide +kernel
theorem d_189_19 : decode (mC 189) 19 = .ok (.getfield 33, 3) := by decide +kernel
theorem d_189_22 : decode (mC 189) 22 = .ok (.if_icmp .ne 16, 3) := by decide +kernel
theorem d_189_38 : decode (mC 189) 38 = .ok (.iconst 0, 1) := by decide +kernel
theorem d_189_39 : decode (mC 189) 39 = .ok (.ireturn, 1) := by decide +kernel
theorem mr_189 : mR 189 = some .boolean := by decide +kernel
theorem d_189_25 : decode (mC 189) 25 = .ok (.iload_n 3, 1) := by decide +kernel
theorem d_189_26 : decode (mC 189) 26 = .ok (.aload_n 0, 1) := by decide +kernel
theorem d_189_27 : decode (mC 189) 27 = .ok (.getfield 36, 3) := by decide +kernel
theorem d_189_30 : decode (mC 189) 30 = .ok (.iand, 1) := by decide +kernel
theorem d_189_31 : decode (mC 189) 31 = .ok (.ifCond .ne 7, 3) := by decide +kernel
theorem d_189_34 : decode (mC 189) 34 = .ok (.iconst 1, 1) := by decide +kernel
theorem d_189_35 : decode (mC 189) 35 = .ok (.goto 4, 3) := by decide +kernel
theorem d_188_6 : decode (mC 188) 6 = .ok (.iload 5, 2) := by decide +kernel
theorem d_188_8 : decode (mC 188) 8 = .ok (.aload_n 1, 1) := by decide +kernel
theorem d_188_9 : decode (mC 188) 9 = .ok (.invokevirtual 46, 3) := by decide +kernel
theorem vk_188_46 : VK 188 46 117 0 4 := ⟨⟨List.mem_of_getElem? (i := 1242) (by decide +kernel), by decide +kernel⟩, List.mem_of_getElem? (i := 943) (by decide +kernel), mo_117, m0_117, _, rfl, List.mem_of_getElem? (i := 944) (by decide +kernel), by decide⟩
theorem d_188_12 : decode (mC 188) 12 = .ok (.if_icmp .gt 52, 3) := by decide +kernel
theorem d_188_15 : decode (mC 188) 15 = .ok (.aload_n 1, 1) := by decide +kernel
theorem d_188_16 : decode (mC 188) 16 = .ok (.getfield 39, 3) := by decide +kernel
theorem cn_188 : (mN 188).cls = "CordLoft$Sight" := by decide +kernel
theorem d_188_19 : decode (mC 188) 19 = .ok (.aload_n 1, 1) := by decide +kernel
theorem d_188_20 : decode (mC 188) 20 = .ok (.getfield 43, 3) := by decide +kernel
theorem d_188_23 : decode (mC 188) 23 = .ok (.iload 5, 2) := by decide +kernel
theorem d_188_25 : decode (mC 188) 25 = .ok (.iaload, 1) := by decide +kernel
theorem d_188_26 : decode (mC 188) 26 = .ok (.ixor, 1) := by decide +kernel
theorem d_188_27 : decode (mC 188) 27 = .ok (.istore 6, 2) := by decide +kernel
theorem ml_188 : mL 188 = 7 := by decide +kernel
theorem d_188_29 : decode (mC 188) 29 = .ok (.iload 5, 2) := by decide +kernel
theorem d_188_31 : decode (mC 188) 31 = .ok (.iload_n 2, 1) := by decide +kernel
theorem d_188_32 : decode (mC 188) 32 = .ok (.iand, 1) := by decide +kernel
theorem d_188_33 : decode (mC 188) 33 = .ok (.iload_n 2, 1) := by decide +kernel
theorem d_188_34 : decode (mC 188) 34 = .ok (.if_icmp .ne 24, 3) := by decide +kernel
theorem d_188_58 : decode (mC 188) 58 = .ok (.iinc 5 1, 3) := by decide +kernel
theorem d_188_61 : decode (mC 188) 61 = .ok (.goto (-55), 3) := by decide +kernel
theorem d_188_37 : decode (mC 188) 37 = .ok (.iload 6, 2) := by decide +kernel
theorem d_188_39 : decode (mC 188) 39 = .ok (.iload_n 3, 1) := by decide +kernel
theorem d_188_40 : decode (mC 188) 40 = .ok (.iand, 1) := by decide +kernel
theorem d_188_41 : decode (mC 188) 41 = .ok (.iload_n 3, 1) := by decide +kernel
theorem d_188_42 : decode (mC 188) 42 = .ok (.if_icmp .ne 16, 3) := by decide +kernel
theorem d_188_45 : decode (mC 188) 45 = .ok (.aload_n 0, 1) := by decide +kernel
theorem d_188_46 : decode (mC 188) 46 = .ok (.aload_n 1, 1) := by decide +kernel
theorem d_188_47 : decode (mC 188) 47 = .ok (.iload 5, 2) := by decide +kernel
theorem d_188_49 : decode (mC 188) 49 = .ok (.invokevirtual 50, 3) := by decide +kernel
theorem mo_189 : MOK 189 := ⟨List.mem_of_getElem? (i := 1246) (by decide +kernel), by decide +kernel, ⟨by decide +kernel, by decide +kernel⟩, List.mem_of_getElem? (i := 99) (by decide +kernel), by decide +kernel⟩
theorem m0_189 : M0K 189 := ⟨by decide +kernel, by decide +kernel⟩
theorem vk_188_50 : VK 188 50 189 2 7 := ⟨⟨List.mem_of_getElem? (i := 1243) (by decide +kernel), by decide +kernel⟩, List.mem_of_getElem? (i := 1245) (by decide +kernel), mo_189, m0_189, _, rfl, List.mem_of_getElem? (i := 28) (by decide +kernel), by decide⟩
theorem d_188_52 : decode (mC 188) 52 = .ok (.ifCond .eq 6, 3) := by decide +kernel
theorem d_188_55 : decode (mC 188) 55 = .ok (.iinc 4 1, 3) := by decide +kernel
theorem d_188_0 : decode (mC 188) 0 = .ok (.iconst 0, 1) := by decide +kernel
theorem d_188_1 : decode (mC 188) 1 = .ok (.istore 4, 2) := by decide +kernel
theorem d_188_3 : decode (mC 188) 3 = .ok (.iconst 0, 1) := by decide +kernel
theorem d_188_4 : decode (mC 188) 4 = .ok (.istore 5, 2) := by decide +kernel
theorem d_188_64 : decode (mC 188) 64 = .ok (.iload 4, 2) := by decide +kernel
theorem d_188_66 : decode (mC 188) 66 = .ok (.ireturn, 1) := by decide +kernel
theorem mr_188 : mR 188 = some .int := by decide +kernel
theorem d_186_0 : decode (mC 186) 0 = .ok (.aload_n 0, 1) := by decide +kernel
theorem d_186_1 : decode (mC 186) 1 = .ok (.getfield 81, 3) := by decide +kernel
theorem cn_186 : (mN 186).cls = "CordLoft" := by decide +kernel
theorem d_186_4 : decode (mC 186) 4 = .ok (.iload_n 1, 1) := by decide +kernel
theorem d_186_5 : decode (mC 186) 5 = .ok (.invokevirtual 322, 3) := by decide +kernel
theorem mo_187 : MOK 187 := ⟨List.mem_of_getElem? (i := 1237) (by decide +kernel), by decide +kernel, ⟨by decide +kernel, by decide +kernel⟩, List.mem_of_getElem? (i := 99) (by decide +kernel), by decide +kernel⟩
theorem m0_187 : M0K 187 := ⟨by decide +kernel, by decide +kernel⟩
theorem vk_186_322 : VK 186 322 187 1 7 := ⟨⟨List.mem_of_getElem? (i := 1234) (by decide +kernel), by decide +kernel⟩, List.mem_of_getElem? (i := 1235) (by decide +kernel), mo_187, m0_187, _, rfl, List.mem_of_getElem? (i := 1236) (by decide +kernel), by decide⟩
theorem d_186_8 : decode (mC 186) 8 = .ok (.aload_n 0, 1) := by decide +kernel
theorem d_186_9 : decode (mC 186) 9 = .ok (.getfield 81, 3) := by decide +kernel
theorem d_186_12 : decode (mC 186) 12 = .ok (.aload_n 0, 1) := by decide +kernel
theorem d_186_13 : decode (mC 186) 13 = .ok (.getfield 35, 3) := by decide +kernel
theorem d_186_16 : decode (mC 186) 16 = .ok (.iconst 0, 1) := by decide +kernel
theorem d_186_17 : decode (mC 186) 17 = .ok (.iconst 0, 1) := by decide +kernel
theorem d_186_18 : decode (mC 186) 18 = .ok (.invokevirtual 325, 3) := by decide +kernel
theorem mo_188 : MOK 188 := ⟨List.mem_of_getElem? (i := 1241) (by decide +kernel), by decide +kernel, ⟨by decide +kernel, by decide +kernel⟩, List.mem_of_getElem? (i := 99) (by decide +kernel), by decide +kernel⟩
theorem m0_188 : M0K 188 := ⟨by decide +kernel, by decide +kernel⟩
theorem vk_186_325 : VK 186 325 188 3 7 := ⟨⟨List.mem_of_getElem? (i := 1238) (by decide +kernel), by decide +kernel⟩, List.mem_of_getElem? (i := 1239) (by decide +kernel), mo_188, m0_188, _, rfl, List.mem_of_getElem? (i := 1240) (by decide +kernel), by decide⟩
theorem d_186_21 : decode (mC 186) 21 = .ok (.ireturn, 1) := by decide +kernel
theorem mr_186 : mR 186 = some .int := by decide +kernel
theorem ml_186 : mL 186 = 2 := by decide +kernel
theorem d_191_2 : decode (mC 191) 2 = .ok (.iload_n 2, 1) := by decide +kernel
theorem d_191_3 : decode (mC 191) 3 = .ok (.aload_n 1, 1) := by decide +kernel
theorem d_191_4 : decode (mC 191) 4 = .ok (.invokevirtual 46, 3) := by decide +kernel
theorem vk_191_46 : VK 191 46 117 0 4 := ⟨⟨List.mem_of_getElem? (i := 1242) (by decide +kernel), by decide +kernel⟩, List.mem_of_getElem? (i := 943) (by decide +kernel), mo_117, m0_117, _, rfl, List.mem_of_getElem? (i := 944) (by decide +kernel), by decide⟩
theorem d_191_7 : decode (mC 191) 7 = .ok (.if_icmp .gt 20, 3) := by decide +kernel
theorem d_191_10 : decode (mC 191) 10 = .ok (.aload_n 0, 1) := by decide +kernel
theorem d_191_11 : decode (mC 191) 11 = .ok (.aload_n 1, 1) := by decide +kernel
theorem d_191_12 : decode (mC 191) 12 = .ok (.iload_n 2, 1) := by decide +kernel
theorem d_191_13 : decode (mC 191) 13 = .ok (.invokevirtual 50, 3) := by decide +kernel
theorem vk_191_50 : VK 191 50 189 2 7 := ⟨⟨List.mem_of_getElem? (i := 1243) (by decide +kernel), by decide +kernel⟩, List.mem_of_getElem? (i := 1245) (by decide +kernel), mo_189, m0_189, _, rfl, List.mem_of_getElem? (i := 28) (by decide +kernel), by decide⟩
theorem d_191_16 : decode (mC 191) 16 = .ok (.ifCond .eq 5, 3) := by decide +kernel
theorem d_191_21 : decode (mC 191) 21 = .ok (.iinc 2 1, 3) := by decide +kernel
theorem ml_191 : mL 191 = 3 := by decide +kernel
theorem d_191_24 : decode (mC 191) 24 = .ok (.goto (-22), 3) := by decide +kernel
theorem d_191_19 : decode (mC 191) 19 = .ok (.iload_n 2, 1) := by decide +kernel
theorem d_191_20 : decode (mC 191) 20 = .ok (.ireturn, 1) := by decide +kernel
theorem mr_191 : mR 191 = some .int := by decide +kernel
theorem d_191_0 : decode (mC 191) 0 = .ok (.iconst 0, 1) := by decide +kernel
theorem d_191_1 : decode (mC 191) 1 = .ok (.istore_n 2, 1) := by decide +kernel
theorem d_191_27 : decode (mC 191) 27 = .ok (.iconst (-1), 1) := by decide +kernel
theorem d_191_28 : decode (mC 191) 28 = .ok (.ireturn, 1) := by decide +kernel
theorem d_190_0 : decode (mC 190) 0 = .ok (.aload_n 0, 1) := by decide +kernel
theorem d_190_1 : decode (mC 190) 1 = .ok (.getfield 81, 3) := by decide +kernel
theorem cn_190 : (mN 190).cls = "CordLoft" := by decide +kernel
theorem d_190_4 : decode (mC 190) 4 = .ok (.iload_n 1, 1) := by decide +kernel
theorem d_190_5 : decode (mC 190) 5 = .ok (.invokevirtual 322, 3) := by decide +kernel
theorem vk_190_322 : VK 190 322 187 1 7 := ⟨⟨List.mem_of_getElem? (i := 1234) (by decide +kernel), by decide +kernel⟩, List.mem_of_getElem? (i := 1235) (by decide +kernel), mo_187, m0_187, _, rfl, List.mem_of_getElem? (i := 1236) (by decide +kernel), by decide⟩
theorem d_190_8 : decode (mC 190) 8 = .ok (.aload_n 0, 1) := by decide +kernel
theorem d_190_9 : decode (mC 190) 9 = .ok (.getfield 81, 3) := by decide +kernel
theorem d_190_12 : decode (mC 190) 12 = .ok (.aload_n 0, 1) := by decide +kernel
theorem d_190_13 : decode (mC 190) 13 = .ok (.getfield 35, 3) := by decide +kernel
theorem d_190_16 : decode (mC 190) 16 = .ok (.invokevirtual 329, 3) := by decide +kernel
theorem mo_191 : MOK 191 := ⟨List.mem_of_getElem? (i := 1254) (by decide +kernel), by decide +kernel, ⟨by decide +kernel, by decide +kernel⟩, List.mem_of_getElem? (i := 99) (by decide +kernel), by decide +kernel⟩
theorem m0_191 : M0K 191 := ⟨by decide +kernel, by decide +kernel⟩
theorem vk_190_329 : VK 190 329 191 1 7 := ⟨⟨List.mem_of_getElem? (i := 1251) (by decide +kernel), by decide +kernel⟩, List.mem_of_getElem? (i := 1252) (by decide +kernel), mo_191, m0_191, _, rfl, List.mem_of_getElem? (i := 1253) (by decide +kernel), by decide⟩
theorem d_190_19 : decode (mC 190) 19 = .ok (.ireturn, 1) := by decide +kernel
theorem mr_190 : mR 190 = some .int := by decide +kernel
theorem ml_190 : mL 190 = 2 := by decide +kernel
theorem d_193_0 : decode (mC 193) 0 = .ok (.aload_n 0, 1) := by decide +kernel
theorem d_193_1 : decode (mC 193) 1 = .ok (.aload_n 1, 1) := by decide +kernel
theorem d_193_2 : decode (mC 193) 2 = .ok (.iconst 0, 1) := by decide +kernel
theorem d_193_3 : decode (mC 193) 3 = .ok (.iconst 0, 1) := by decide +kernel
theorem d_193_4 : decode (mC 193) 4 = .ok (.invokevirtual 54, 3) := by decide +kernel
theorem vk_193_54 : VK 193 54 188 3 7 := ⟨⟨List.mem_of_getElem? (i := 1263) (by decide +kernel), by decide +kernel⟩, List.mem_of_getElem? (i := 1239) (by decide +kernel), mo_188, m0_188, _, rfl, List.mem_of_getElem? (i := 1240) (by decide +kernel), by decide⟩
theorem d_193_7 : decode (mC 193) 7 = .ok (.istore_n 3, 1) := by decide +kernel
theorem ml_193 : mL 193 = 5 := by decide +kernel
theorem d_193_8 : decode (mC 193) 8 = .ok (.iload_n 3, 1) := by decide +kernel
theorem d_193_9 : decode (mC 193) 9 = .ok (.ifCond .ne 5, 3) := by decide +kernel
theorem d_193_14 : decode (mC 193) 14 = .ok (.aload_n 0, 1) := by decide +kernel
theorem d_193_15 : decode (mC 193) 15 = .ok (.aload_n 1, 1) := by decide +kernel
theorem d_193_16 : decode (mC 193) 16 = .ok (.iconst 1, 1) := by decide +kernel
theorem d_193_17 : decode (mC 193) 17 = .ok (.iload_n 2, 1) := by decide +kernel
theorem d_193_18 : decode (mC 193) 18 = .ok (.ishl, 1) := by decide +kernel
theorem d_193_19 : decode (mC 193) 19 = .ok (.iconst 0, 1) := by decide +kernel
theorem d_193_20 : decode (mC 193) 20 = .ok (.invokevirtual 54, 3) := by decide +kernel
theorem d_193_23 : decode (mC 193) 23 = .ok (.istore 4, 2) := by decide +kernel
theorem d_193_25 : decode (mC 193) 25 = .ok (.iload 4, 2) := by decide +kernel
theorem d_193_27 : decode (mC 193) 27 = .ok (.iload_n 3, 1) := by decide +kernel
theorem d_193_28 : decode (mC 193) 28 = .ok (.if_icmp .ne 5, 3) := by decide +kernel
theorem d_193_33 : decode (mC 193) 33 = .ok (.iload 4, 2) := by decide +kernel
theorem d_193_35 : decode (mC 193) 35 = .ok (.ifCond .ne 7, 3) := by decide +kernel
theorem d_193_42 : decode (mC 193) 42 = .ok (.bipush (-2), 2) := by decide +kernel
theorem bi_m2 : (Int8.ofInt (-2)).toInt32 = (-2) := by decide +kernel
theorem d_193_44 : decode (mC 193) 44 = .ok (.ireturn, 1) := by decide +kernel
theorem mr_193 : mR 193 = some .int := by decide +kernel
theorem d_193_38 : decode (mC 193) 38 = .ok (.iconst 0, 1) := by decide +kernel
theorem d_193_39 : decode (mC 193) 39 = .ok (.goto 5, 3) := by decide +kernel
theorem d_193_31 : decode (mC 193) 31 = .ok (.iconst 1, 1) := by decide +kernel
theorem d_193_32 : decode (mC 193) 32 = .ok (.ireturn, 1) := by decide +kernel
theorem d_193_12 : decode (mC 193) 12 = .ok (.iconst (-1), 1) := by decide +kernel
theorem d_193_13 : decode (mC 193) 13 = .ok (.ireturn, 1) := by decide +kernel
theorem d_192_0 : decode (mC 192) 0 = .ok (.aload_n 0, 1) := by decide +kernel
theorem d_192_1 : decode (mC 192) 1 = .ok (.getfield 35, 3) := by decide +kernel
theorem cn_192 : (mN 192).cls = "CordLoft" := by decide +kernel
theorem d_192_4 : decode (mC 192) 4 = .ok (.iload_n 1, 1) := by decide +kernel
theorem d_192_5 : decode (mC 192) 5 = .ok (.invokevirtual 152, 3) := by decide +kernel
theorem vk_192_152 : VK 192 152 88 1 4 := ⟨⟨List.mem_of_getElem? (i := 823) (by decide +kernel), by decide +kernel⟩, List.mem_of_getElem? (i := 824) (by decide +kernel), mo_88, m0_88, _, rfl, List.mem_of_getElem? (i := 825) (by decide +kernel), by decide⟩
theorem d_192_8 : decode (mC 192) 8 = .ok (.ifCond .ne 5, 3) := by decide +kernel
theorem d_192_13 : decode (mC 192) 13 = .ok (.aload_n 0, 1) := by decide +kernel
theorem d_192_14 : decode (mC 192) 14 = .ok (.getfield 81, 3) := by decide +kernel
theorem d_192_17 : decode (mC 192) 17 = .ok (.iload_n 2, 1) := by decide +kernel
theorem d_192_18 : decode (mC 192) 18 = .ok (.invokevirtual 322, 3) := by decide +kernel
theorem vk_192_322 : VK 192 322 187 1 7 := ⟨⟨List.mem_of_getElem? (i := 1234) (by decide +kernel), by decide +kernel⟩, List.mem_of_getElem? (i := 1235) (by decide +kernel), mo_187, m0_187, _, rfl, List.mem_of_getElem? (i := 1236) (by decide +kernel), by decide⟩
theorem d_192_21 : decode (mC 192) 21 = .ok (.aload_n 0, 1) := by decide +kernel
theorem d_192_22 : decode (mC 192) 22 = .ok (.getfield 81, 3) := by decide +kernel
theorem d_192_25 : decode (mC 192) 25 = .ok (.aload_n 0, 1) := by decide +kernel
theorem d_192_26 : decode (mC 192) 26 = .ok (.getfield 35, 3) := by decide +kernel
theorem d_192_29 : decode (mC 192) 29 = .ok (.iload_n 1, 1) := by decide +kernel
theorem d_192_30 : decode (mC 192) 30 = .ok (.invokevirtual 332, 3) := by decide +kernel
theorem mo_193 : MOK 193 := ⟨List.mem_of_getElem? (i := 1262) (by decide +kernel), by decide +kernel, ⟨by decide +kernel, by decide +kernel⟩, List.mem_of_getElem? (i := 99) (by decide +kernel), by decide +kernel⟩
theorem m0_193 : M0K 193 := ⟨by decide +kernel, by decide +kernel⟩
theorem vk_192_332 : VK 192 332 193 2 7 := ⟨⟨List.mem_of_getElem? (i := 1259) (by decide +kernel), by decide +kernel⟩, List.mem_of_getElem? (i := 1260) (by decide +kernel), mo_193, m0_193, _, rfl, List.mem_of_getElem? (i := 1261) (by decide +kernel), by decide⟩
theorem d_192_33 : decode (mC 192) 33 = .ok (.ireturn, 1) := by decide +kernel
theorem mr_192 : mR 192 = some .int := by decide +kernel
theorem d_192_11 : decode (mC 192) 11 = .ok (.iconst (-1), 1) := by decide +kernel
theorem d_192_12 : decode (mC 192) 12 = .ok (.ireturn, 1) := by decide +kernel
theorem ml_192 : mL 192 = 3 := by decide +kernel
theorem d_195_67 : decode (mC 195) 67 = .ok (.iload 4, 2) := by decide +kernel
theorem d_195_69 : decode (mC 195) 69 = .ok (.istore_n 3, 1) := by decide +kernel
theorem ml_195 : mL 195 = 7 := by decide +kernel
theorem d_195_70 : decode (mC 195) 70 = .ok (.aload_n 0, 1) := by decide +kernel
theorem d_195_71 : decode (mC 195) 71 = .ok (.iload 6, 2) := by decide +kernel
theorem d_195_73 : decode (mC 195) 73 = .ok (.putfield 58, 3) := by decide +kernel
theorem fp_CordLoft_Sight_58 : FP 0 "CordLoft$Sight" 58 7 8 := ⟨⟨_, rfl, by decide, List.mem_of_getElem? (i := 462) (by decide +kernel), rfl⟩, rfl, by decide, by decide +kernel⟩
theorem cn_195 : (mN 195).cls = "CordLoft$Sight" := by decide +kernel
theorem d_195_76 : decode (mC 195) 76 = .ok (.iinc 4 1, 3) := by decide +kernel
theorem d_195_79 : decode (mC 195) 79 = .ok (.goto (-61), 3) := by decide +kernel
theorem d_195_18 : decode (mC 195) 18 = .ok (.iload 4, 2) := by decide +kernel
theorem d_195_20 : decode (mC 195) 20 = .ok (.aload_n 1, 1) := by decide +kernel
theorem d_195_21 : decode (mC 195) 21 = .ok (.getfield 61, 3) := by decide +kernel
theorem fk_CordLoft_Sight_61 : FK 0 "CordLoft$Sight" 61 4 0 := ⟨⟨_, rfl, by decide, List.mem_of_getElem? (i := 231) (by decide +kernel)⟩, rfl, by decide⟩
theorem d_195_24 : decode (mC 195) 24 = .ok (.if_icmp .ge 58, 3) := by decide +kernel
theorem d_195_27 : decode (mC 195) 27 = .ok (.iload_n 2, 1) := by decide +kernel
theorem d_195_28 : decode (mC 195) 28 = .ok (.ifCond .le 54, 3) := by decide +kernel
theorem d_195_31 : decode (mC 195) 31 = .ok (.aload_n 0, 1) := by decide +kernel
theorem d_195_32 : decode (mC 195) 32 = .ok (.aload_n 1, 1) := by decide +kernel
theorem d_195_33 : decode (mC 195) 33 = .ok (.iconst 0, 1) := by decide +kernel
theorem d_195_34 : decode (mC 195) 34 = .ok (.iconst 1, 1) := by decide +kernel
theorem d_195_35 : decode (mC 195) 35 = .ok (.iload 4, 2) := by decide +kernel
theorem d_195_37 : decode (mC 195) 37 = .ok (.ishl, 1) := by decide +kernel
theorem d_195_38 : decode (mC 195) 38 = .ok (.invokevirtual 54, 3) := by decide +kernel
theorem vk_195_54 : VK 195 54 188 3 7 := ⟨⟨List.mem_of_getElem? (i := 1263) (by decide +kernel), by decide +kernel⟩, List.mem_of_getElem? (i := 1239) (by decide +kernel), mo_188, m0_188, _, rfl, List.mem_of_getElem? (i := 1240) (by decide +kernel), by decide⟩
theorem d_195_41 : decode (mC 195) 41 = .ok (.istore 5, 2) := by decide +kernel
theorem d_195_43 : decode (mC 195) 43 = .ok (.iload 5, 2) := by decide +kernel
theorem d_195_45 : decode (mC 195) 45 = .ok (.iload_n 2, 1) := by decide +kernel
theorem d_195_46 : decode (mC 195) 46 = .ok (.iload 5, 2) := by decide +kernel
theorem d_195_48 : decode (mC 195) 48 = .ok (.isub, 1) := by decide +kernel
theorem d_195_49 : decode (mC 195) 49 = .ok (.invokestatic 63, 3) := by decide +kernel
theorem mk_CordLoft_Sight_63 : Cond.methodLink "CordLoft$Sight" 63 Lib.Math.max.name ∈ lw_tbl := List.mem_of_getElem? (i := 1272) (by decide +kernel)
theorem d_195_52 : decode (mC 195) 52 = .ok (.istore 6, 2) := by decide +kernel
theorem d_195_54 : decode (mC 195) 54 = .ok (.iload_n 3, 1) := by decide +kernel
theorem d_195_55 : decode (mC 195) 55 = .ok (.ifCond .lt 12, 3) := by decide +kernel
theorem d_195_58 : decode (mC 195) 58 = .ok (.iload 6, 2) := by decide +kernel
theorem d_195_60 : decode (mC 195) 60 = .ok (.aload_n 0, 1) := by decide +kernel
theorem d_195_61 : decode (mC 195) 61 = .ok (.getfield 58, 3) := by decide +kernel
theorem fk_CordLoft_Sight_58 : FK 0 "CordLoft$Sight" 58 7 8 := ⟨⟨_, rfl, by decide, List.mem_of_getElem? (i := 462) (by decide +kernel)⟩, rfl, by decide⟩
theorem d_195_64 : decode (mC 195) 64 = .ok (.if_icmp .ge 12, 3) := by decide +kernel
theorem d_195_0 : decode (mC 195) 0 = .ok (.aload_n 0, 1) := by decide +kernel
theorem d_195_1 : decode (mC 195) 1 = .ok (.aload_n 1, 1) := by decide +kernel
theorem d_195_2 : decode (mC 195) 2 = .ok (.iconst 0, 1) := by decide +kernel
theorem d_195_3 : decode (mC 195) 3 = .ok (.iconst 0, 1) := by decide +kernel
theorem d_195_4 : decode (mC 195) 4 = .ok (.invokevirtual 54, 3) := by decide +kernel
theorem d_195_7 : decode (mC 195) 7 = .ok (.istore_n 2, 1) := by decide +kernel
theorem d_195_8 : decode (mC 195) 8 = .ok (.iconst (-1), 1) := by decide +kernel
theorem d_195_9 : decode (mC 195) 9 = .ok (.istore_n 3, 1) := by decide +kernel
theorem d_195_10 : decode (mC 195) 10 = .ok (.aload_n 0, 1) := by decide +kernel
theorem d_195_11 : decode (mC 195) 11 = .ok (.iload_n 2, 1) := by decide +kernel
theorem d_195_12 : decode (mC 195) 12 = .ok (.putfield 58, 3) := by decide +kernel
theorem d_195_15 : decode (mC 195) 15 = .ok (.iconst 0, 1) := by decide +kernel
theorem d_195_16 : decode (mC 195) 16 = .ok (.istore 4, 2) := by decide +kernel
theorem d_195_82 : decode (mC 195) 82 = .ok (.iload_n 3, 1) := by decide +kernel
theorem d_195_83 : decode (mC 195) 83 = .ok (.ireturn, 1) := by decide +kernel
theorem mr_195 : mR 195 = some .int := by decide +kernel
theorem d_194_0 : decode (mC 194) 0 = .ok (.aload_n 0, 1) := by decide +kernel
theorem d_194_1 : decode (mC 194) 1 = .ok (.getfield 81, 3) := by decide +kernel
theorem cn_194 : (mN 194).cls = "CordLoft" := by decide +kernel
theorem d_194_4 : decode (mC 194) 4 = .ok (.iload_n 2, 1) := by decide +kernel
theorem d_194_5 : decode (mC 194) 5 = .ok (.invokevirtual 322, 3) := by decide +kernel
theorem vk_194_322 : VK 194 322 187 1 7 := ⟨⟨List.mem_of_getElem? (i := 1234) (by decide +kernel), by decide +kernel⟩, List.mem_of_getElem? (i := 1235) (by decide +kernel), mo_187, m0_187, _, rfl, List.mem_of_getElem? (i := 1236) (by decide +kernel), by decide⟩
theorem d_194_8 : decode (mC 194) 8 = .ok (.aload_n 0, 1) := by decide +kernel
theorem d_194_9 : decode (mC 194) 9 = .ok (.getfield 81, 3) := by decide +kernel
theorem d_194_12 : decode (mC 194) 12 = .ok (.aload_n 0, 1) := by decide +kernel
theorem d_194_13 : decode (mC 194) 13 = .ok (.getfield 35, 3) := by decide +kernel
theorem d_194_16 : decode (mC 194) 16 = .ok (.invokevirtual 335, 3) := by decide +kernel
theorem mo_195 : MOK 195 := ⟨List.mem_of_getElem? (i := 1271) (by decide +kernel), by decide +kernel, ⟨by decide +kernel, by decide +kernel⟩, List.mem_of_getElem? (i := 99) (by decide +kernel), by decide +kernel⟩
theorem m0_195 : M0K 195 := ⟨by decide +kernel, by decide +kernel⟩
theorem vk_194_335 : VK 194 335 195 1 7 := ⟨⟨List.mem_of_getElem? (i := 1268) (by decide +kernel), by decide +kernel⟩, List.mem_of_getElem? (i := 1269) (by decide +kernel), mo_195, m0_195, _, rfl, List.mem_of_getElem? (i := 1270) (by decide +kernel), by decide⟩
theorem d_194_19 : decode (mC 194) 19 = .ok (.istore_n 3, 1) := by decide +kernel
theorem ml_194 : mL 194 = 4 := by decide +kernel
theorem d_194_20 : decode (mC 194) 20 = .ok (.iload_n 3, 1) := by decide +kernel
theorem d_194_21 : decode (mC 194) 21 = .ok (.ifCond .ge 7, 3) := by decide +kernel
theorem d_194_28 : decode (mC 194) 28 = .ok (.iload_n 1, 1) := by decide +kernel
theorem d_194_29 : decode (mC 194) 29 = .ok (.iload_n 3, 1) := by decide +kernel
theorem d_194_30 : decode (mC 194) 30 = .ok (.aload_n 0, 1) := by decide +kernel
theorem d_194_31 : decode (mC 194) 31 = .ok (.getfield 81, 3) := by decide +kernel
theorem d_194_34 : decode (mC 194) 34 = .ok (.getfield 338, 3) := by decide +kernel
theorem fk_CordLoft_338 : FK 0 "CordLoft" 338 7 8 := ⟨⟨_, rfl, by decide, List.mem_of_getElem? (i := 463) (by decide +kernel)⟩, rfl, by decide⟩
theorem d_194_37 : decode (mC 194) 37 = .ok (.invokestatic 132, 3) := by decide +kernel
theorem sk_194_132 : SKc 194 132 84 3 := ⟨⟨List.mem_of_getElem? (i := 808) (by decide +kernel), by decide +kernel⟩, List.mem_of_getElem? (i := 809) (by decide +kernel), mo_84, m0_84⟩
theorem d_194_40 : decode (mC 194) 40 = .ok (.ireturn, 1) := by decide +kernel
theorem mr_194 : mR 194 = some .int := by decide +kernel
theorem d_194_24 : decode (mC 194) 24 = .ok (.iconst (-1), 1) := by decide +kernel
theorem d_194_25 : decode (mC 194) 25 = .ok (.goto 15, 3) := by decide +kernel
theorem d_196_0 : decode (mC 196) 0 = .ok (.iload_n 1, 1) := by decide +kernel
theorem d_196_1 : decode (mC 196) 1 = .ok (.ifCond .lt 8, 3) := by decide +kernel
theorem d_196_9 : decode (mC 196) 9 = .ok (.iconst (-1), 1) := by decide +kernel
theorem d_196_10 : decode (mC 196) 10 = .ok (.ireturn, 1) := by decide +kernel
theorem mr_196 : mR 196 = some .int := by decide +kernel
theorem d_196_4 : decode (mC 196) 4 = .ok (.iload_n 1, 1) := by decide +kernel
theorem d_196_5 : decode (mC 196) 5 = .ok (.iconst 3, 1) := by decide +kernel
theorem d_196_6 : decode (mC 196) 6 = .ok (.if_icmp .lt 5, 3) := by decide +kernel
theorem d_196_11 : decode (mC 196) 11 = .ok (.aload_n 0, 1) := by decide +kernel
theorem d_196_12 : decode (mC 196) 12 = .ok (.getfield 45, 3) := by decide +kernel
theorem cn_196 : (mN 196).cls = "CordLoft" := by decide +kernel
theorem d_196_15 : decode (mC 196) 15 = .ok (.invokevirtual 114, 3) := by decide +kernel
theorem vk_196_114 : VK 196 114 78 0 0 := ⟨⟨List.mem_of_getElem? (i := 784) (by decide +kernel), by decide +kernel⟩, List.mem_of_getElem? (i := 785) (by decide +kernel), mo_78, m0_78, _, rfl, List.mem_of_getElem? (i := 786) (by decide +kernel), by decide⟩
theorem d_196_18 : decode (mC 196) 18 = .ok (.astore_n 2, 1) := by decide +kernel
theorem ml_196 : mL 196 = 3 := by decide +kernel
theorem d_196_19 : decode (mC 196) 19 = .ok (.aload_n 0, 1) := by decide +kernel
theorem d_196_20 : decode (mC 196) 20 = .ok (.getfield 56, 3) := by decide +kernel
theorem fk_CordLoft_56 : FK 2 "CordLoft" 56 11 7 := ⟨⟨_, rfl, by decide, List.mem_of_getElem? (i := 490) (by decide +kernel)⟩, rfl, by decide⟩
theorem ft_12_7 : finT 12 7 = some (82, 0) := by decide +kernel
theorem k_82 : kd0 82 = 24 := by decide +kernel
theorem l_82 : ln0 82 = 3 := by decide +kernel
theorem d_196_23 : decode (mC 196) 23 = .ok (.iload_n 1, 1) := by decide +kernel
theorem d_196_24 : decode (mC 196) 24 = .ok (.aaload, 1) := by decide +kernel
theorem d_196_25 : decode (mC 196) 25 = .ok (.aload_n 2, 1) := by decide +kernel
theorem d_196_26 : decode (mC 196) 26 = .ok (.invokevirtual 199, 3) := by decide +kernel
theorem vk_196_199 : VK 196 199 95 1 8 := ⟨⟨List.mem_of_getElem? (i := 925) (by decide +kernel), by decide +kernel⟩, List.mem_of_getElem? (i := 854) (by decide +kernel), mo_95, m0_95, _, rfl, List.mem_of_getElem? (i := 855) (by decide +kernel), by decide⟩
theorem d_196_29 : decode (mC 196) 29 = .ok (.aload_n 0, 1) := by decide +kernel
theorem d_196_30 : decode (mC 196) 30 = .ok (.dup, 1) := by decide +kernel
theorem d_196_31 : decode (mC 196) 31 = .ok (.getfield 60, 3) := by decide +kernel
theorem fk_CordLoft_60 : FK 0 "CordLoft" 60 11 8 := ⟨⟨_, rfl, by decide, List.mem_of_getElem? (i := 491) (by decide +kernel)⟩, rfl, by decide⟩
theorem d_196_34 : decode (mC 196) 34 = .ok (.iconst 1, 1) := by decide +kernel
theorem d_196_35 : decode (mC 196) 35 = .ok (.iload_n 1, 1) := by decide +kernel
theorem d_196_36 : decode (mC 196) 36 = .ok (.ishl, 1) := by decide +kernel
theorem d_196_37 : decode (mC 196) 37 = .ok (.ior, 1) := by decide +kernel
theorem d_196_38 : decode (mC 196) 38 = .ok (.putfield 60, 3) := by decide +kernel
theorem d_196_41 : decode (mC 196) 41 = .ok (.aload_n 2, 1) := by decide +kernel
theorem d_196_42 : decode (mC 196) 42 = .ok (.getfield 140, 3) := by decide +kernel
theorem d_196_45 : decode (mC 196) 45 = .ok (.ireturn, 1) := by decide +kernel
theorem d_197_0 : decode (mC 197) 0 = .ok (.iload_n 1, 1) := by decide +kernel
theorem d_197_1 : decode (mC 197) 1 = .ok (.ifCond .lt 19, 3) := by decide +kernel
theorem d_197_20 : decode (mC 197) 20 = .ok (.iconst (-1), 1) := by decide +kernel
theorem d_197_21 : decode (mC 197) 21 = .ok (.ireturn, 1) := by decide +kernel
theorem mr_197 : mR 197 = some .int := by decide +kernel
theorem d_197_4 : decode (mC 197) 4 = .ok (.iload_n 1, 1) := by decide +kernel
theorem d_197_5 : decode (mC 197) 5 = .ok (.iconst 3, 1) := by decide +kernel
theorem d_197_6 : decode (mC 197) 6 = .ok (.if_icmp .ge 14, 3) := by decide +kernel
theorem d_197_9 : decode (mC 197) 9 = .ok (.aload_n 0, 1) := by decide +kernel
theorem d_197_10 : decode (mC 197) 10 = .ok (.getfield 60, 3) := by decide +kernel
theorem cn_197 : (mN 197).cls = "CordLoft" := by decide +kernel
theorem d_197_13 : decode (mC 197) 13 = .ok (.iload_n 1, 1) := by decide +kernel
theorem d_197_14 : decode (mC 197) 14 = .ok (.ishr, 1) := by decide +kernel
theorem d_197_15 : decode (mC 197) 15 = .ok (.iconst 1, 1) := by decide +kernel
theorem d_197_16 : decode (mC 197) 16 = .ok (.iand, 1) := by decide +kernel
theorem d_197_17 : decode (mC 197) 17 = .ok (.ifCond .ne 5, 3) := by decide +kernel
theorem d_197_22 : decode (mC 197) 22 = .ok (.aload_n 0, 1) := by decide +kernel
theorem d_197_23 : decode (mC 197) 23 = .ok (.getfield 45, 3) := by decide +kernel
theorem d_197_26 : decode (mC 197) 26 = .ok (.invokevirtual 114, 3) := by decide +kernel
theorem vk_197_114 : VK 197 114 78 0 0 := ⟨⟨List.mem_of_getElem? (i := 784) (by decide +kernel), by decide +kernel⟩, List.mem_of_getElem? (i := 785) (by decide +kernel), mo_78, m0_78, _, rfl, List.mem_of_getElem? (i := 786) (by decide +kernel), by decide⟩
theorem d_197_29 : decode (mC 197) 29 = .ok (.astore_n 2, 1) := by decide +kernel
theorem ml_197 : mL 197 = 3 := by decide +kernel
theorem d_197_30 : decode (mC 197) 30 = .ok (.aload_n 2, 1) := by decide +kernel
theorem d_197_31 : decode (mC 197) 31 = .ok (.aload_n 0, 1) := by decide +kernel
theorem d_197_32 : decode (mC 197) 32 = .ok (.getfield 56, 3) := by decide +kernel
theorem d_197_35 : decode (mC 197) 35 = .ok (.iload_n 1, 1) := by decide +kernel
theorem d_197_36 : decode (mC 197) 36 = .ok (.aaload, 1) := by decide +kernel
theorem d_197_37 : decode (mC 197) 37 = .ok (.invokevirtual 199, 3) := by decide +kernel
theorem vk_197_199 : VK 197 199 95 1 8 := ⟨⟨List.mem_of_getElem? (i := 925) (by decide +kernel), by decide +kernel⟩, List.mem_of_getElem? (i := 854) (by decide +kernel), mo_95, m0_95, _, rfl, List.mem_of_getElem? (i := 855) (by decide +kernel), by decide⟩
theorem d_197_40 : decode (mC 197) 40 = .ok (.aload_n 0, 1) := by decide +kernel
theorem d_197_41 : decode (mC 197) 41 = .ok (.getfield 45, 3) := by decide +kernel
theorem d_197_44 : decode (mC 197) 44 = .ok (.invokevirtual 122, 3) := by decide +kernel
theorem vk_197_122 : VK 197 122 80 0 0 := ⟨⟨List.mem_of_getElem? (i := 792) (by decide +kernel), by decide +kernel⟩, List.mem_of_getElem? (i := 793) (by decide +kernel), mo_80, m0_80, _, rfl, List.mem_of_getElem? (i := 794) (by decide +kernel), by decide⟩
theorem d_197_47 : decode (mC 197) 47 = .ok (.aload_n 0, 1) := by decide +kernel
theorem d_197_48 : decode (mC 197) 48 = .ok (.getfield 56, 3) := by decide +kernel
theorem d_197_51 : decode (mC 197) 51 = .ok (.iload_n 1, 1) := by decide +kernel
theorem d_197_52 : decode (mC 197) 52 = .ok (.aaload, 1) := by decide +kernel
theorem d_197_53 : decode (mC 197) 53 = .ok (.getfield 140, 3) := by decide +kernel
theorem d_197_56 : decode (mC 197) 56 = .ok (.ireturn, 1) := by decide +kernel
theorem d_198_0 : decode (mC 198) 0 = .ok (.aload_n 0, 1) := by decide +kernel
theorem d_198_1 : decode (mC 198) 1 = .ok (.getfield 45, 3) := by decide +kernel
theorem cn_198 : (mN 198).cls = "CordLoft" := by decide +kernel
theorem d_198_4 : decode (mC 198) 4 = .ok (.invokevirtual 114, 3) := by decide +kernel
theorem vk_198_114 : VK 198 114 78 0 0 := ⟨⟨List.mem_of_getElem? (i := 784) (by decide +kernel), by decide +kernel⟩, List.mem_of_getElem? (i := 785) (by decide +kernel), mo_78, m0_78, _, rfl, List.mem_of_getElem? (i := 786) (by decide +kernel), by decide⟩
theorem d_198_7 : decode (mC 198) 7 = .ok (.astore_n 2, 1) := by decide +kernel
theorem ml_198 : mL 198 = 3 := by decide +kernel
theorem d_198_8 : decode (mC 198) 8 = .ok (.iload_n 1, 1) := by decide +kernel
theorem d_198_9 : decode (mC 198) 9 = .ok (.tableswitch 194 0 14 #[75, 83, 91, 96, 101, 106, 111, 119, 135, 143, 151, 159, 170, 178, 186], 75) := by decide +kernel
theorem d_198_84 : decode (mC 198) 84 = .ok (.aload_n 0, 1) := by decide +kernel
theorem d_198_85 : decode (mC 198) 85 = .ok (.getfield 35, 3) := by decide +kernel
theorem d_198_88 : decode (mC 198) 88 = .ok (.getfield 129, 3) := by decide +kernel
theorem d_198_91 : decode (mC 198) 91 = .ok (.ireturn, 1) := by decide +kernel
theorem mr_198 : mR 198 = some .int := by decide +kernel
theorem d_198_92 : decode (mC 198) 92 = .ok (.aload_n 0, 1) := by decide +kernel
theorem d_198_93 : decode (mC 198) 93 = .ok (.getfield 35, 3) := by decide +kernel
theorem d_198_96 : decode (mC 198) 96 = .ok (.getfield 231, 3) := by decide +kernel
theorem d_198_99 : decode (mC 198) 99 = .ok (.ireturn, 1) := by decide +kernel
theorem d_198_100 : decode (mC 198) 100 = .ok (.aload_n 2, 1) := by decide +kernel
theorem d_198_101 : decode (mC 198) 101 = .ok (.getfield 161, 3) := by decide +kernel
theorem d_198_104 : decode (mC 198) 104 = .ok (.ireturn, 1) := by decide +kernel
theorem d_198_105 : decode (mC 198) 105 = .ok (.aload_n 2, 1) := by decide +kernel
theorem d_198_106 : decode (mC 198) 106 = .ok (.getfield 179, 3) := by decide +kernel
theorem d_198_109 : decode (mC 198) 109 = .ok (.ireturn, 1) := by decide +kernel
theorem d_198_110 : decode (mC 198) 110 = .ok (.aload_n 2, 1) := by decide +kernel
theorem d_198_111 : decode (mC 198) 111 = .ok (.getfield 185, 3) := by decide +kernel
theorem d_198_114 : decode (mC 198) 114 = .ok (.ireturn, 1) := by decide +kernel
theorem d_198_115 : decode (mC 198) 115 = .ok (.aload_n 2, 1) := by decide +kernel
theorem d_198_116 : decode (mC 198) 116 = .ok (.getfield 341, 3) := by decide +kernel
theorem fk_CordLoft_341 : FK 0 "CordLoft" 341 8 4 := ⟨⟨_, rfl, by decide, List.mem_of_getElem? (i := 341) (by decide +kernel)⟩, rfl, by decide⟩
theorem d_198_119 : decode (mC 198) 119 = .ok (.ireturn, 1) := by decide +kernel
theorem d_198_120 : decode (mC 198) 120 = .ok (.aload_n 0, 1) := by decide +kernel
theorem d_198_121 : decode (mC 198) 121 = .ok (.getfield 45, 3) := by decide +kernel
theorem d_198_124 : decode (mC 198) 124 = .ok (.getfield 344, 3) := by decide +kernel
theorem fk_CordLoft_344 : FK 0 "CordLoft" 344 0 1 := ⟨⟨_, rfl, by decide, List.mem_of_getElem? (i := 355) (by decide +kernel)⟩, rfl, by decide⟩
theorem d_198_127 : decode (mC 198) 127 = .ok (.ireturn, 1) := by decide +kernel
theorem d_198_128 : decode (mC 198) 128 = .ok (.aload_n 0, 1) := by decide +kernel
theorem d_198_129 : decode (mC 198) 129 = .ok (.getfield 45, 3) := by decide +kernel
theorem d_198_132 : decode (mC 198) 132 = .ok (.getfield 347, 3) := by decide +kernel
theorem fk_CordLoft_347 : FK 0 "CordLoft" 347 0 2 := ⟨⟨_, rfl, by decide, List.mem_of_getElem? (i := 357) (by decide +kernel)⟩, rfl, by decide⟩
theorem d_198_135 : decode (mC 198) 135 = .ok (.aload_n 0, 1) := by decide +kernel
theorem d_198_136 : decode (mC 198) 136 = .ok (.getfield 45, 3) := by decide +kernel
theorem d_198_139 : decode (mC 198) 139 = .ok (.getfield 344, 3) := by decide +kernel
theorem d_198_142 : decode (mC 198) 142 = .ok (.isub, 1) := by decide +kernel
theorem d_198_143 : decode (mC 198) 143 = .ok (.ireturn, 1) := by decide +kernel
theorem d_198_144 : decode (mC 198) 144 = .ok (.aload_n 0, 1) := by decide +kernel
theorem d_198_145 : decode (mC 198) 145 = .ok (.getfield 81, 3) := by decide +kernel
theorem d_198_148 : decode (mC 198) 148 = .ok (.getfield 350, 3) := by decide +kernel
theorem fk_CordLoft_350 : FK 0 "CordLoft" 350 7 6 := ⟨⟨_, rfl, by decide, List.mem_of_getElem? (i := 459) (by decide +kernel)⟩, rfl, by decide⟩
theorem d_198_151 : decode (mC 198) 151 = .ok (.ireturn, 1) := by decide +kernel
theorem d_198_152 : decode (mC 198) 152 = .ok (.aload_n 0, 1) := by decide +kernel
theorem d_198_153 : decode (mC 198) 153 = .ok (.getfield 81, 3) := by decide +kernel
theorem d_198_156 : decode (mC 198) 156 = .ok (.getfield 353, 3) := by decide +kernel
theorem fk_CordLoft_353 : FK 0 "CordLoft" 353 7 7 := ⟨⟨_, rfl, by decide, List.mem_of_getElem? (i := 461) (by decide +kernel)⟩, rfl, by decide⟩
theorem d_198_159 : decode (mC 198) 159 = .ok (.ireturn, 1) := by decide +kernel
theorem d_198_160 : decode (mC 198) 160 = .ok (.aload_n 0, 1) := by decide +kernel
theorem d_198_161 : decode (mC 198) 161 = .ok (.getfield 10, 3) := by decide +kernel
theorem d_198_164 : decode (mC 198) 164 = .ok (.getfield 95, 3) := by decide +kernel
theorem d_198_167 : decode (mC 198) 167 = .ok (.ireturn, 1) := by decide +kernel
theorem d_198_168 : decode (mC 198) 168 = .ok (.aload_n 0, 1) := by decide +kernel
theorem d_198_169 : decode (mC 198) 169 = .ok (.getfield 35, 3) := by decide +kernel
theorem d_198_172 : decode (mC 198) 172 = .ok (.getfield 356, 3) := by decide +kernel
theorem fk_CordLoft_356 : FK 2 "CordLoft" 356 4 11 := ⟨⟨_, rfl, by decide, List.mem_of_getElem? (i := 265) (by decide +kernel)⟩, rfl, by decide⟩
theorem d_198_175 : decode (mC 198) 175 = .ok (.getfield 360, 3) := by decide +kernel
theorem fk_CordLoft_360 : FK 0 "CordLoft" 360 2 4 := ⟨⟨_, rfl, by decide, List.mem_of_getElem? (i := 215) (by decide +kernel)⟩, rfl, by decide⟩
theorem d_198_178 : decode (mC 198) 178 = .ok (.ireturn, 1) := by decide +kernel
theorem d_198_179 : decode (mC 198) 179 = .ok (.aload_n 0, 1) := by decide +kernel
theorem d_198_180 : decode (mC 198) 180 = .ok (.getfield 74, 3) := by decide +kernel
theorem d_198_183 : decode (mC 198) 183 = .ok (.getfield 306, 3) := by decide +kernel
theorem d_198_186 : decode (mC 198) 186 = .ok (.ireturn, 1) := by decide +kernel
theorem d_198_187 : decode (mC 198) 187 = .ok (.aload_n 0, 1) := by decide +kernel
theorem d_198_188 : decode (mC 198) 188 = .ok (.getfield 35, 3) := by decide +kernel
theorem d_198_191 : decode (mC 198) 191 = .ok (.getfield 173, 3) := by decide +kernel
theorem d_198_194 : decode (mC 198) 194 = .ok (.ireturn, 1) := by decide +kernel
theorem d_198_195 : decode (mC 198) 195 = .ok (.aload_n 0, 1) := by decide +kernel
theorem d_198_196 : decode (mC 198) 196 = .ok (.getfield 35, 3) := by decide +kernel
theorem d_198_199 : decode (mC 198) 199 = .ok (.getfield 300, 3) := by decide +kernel
theorem d_198_202 : decode (mC 198) 202 = .ok (.ireturn, 1) := by decide +kernel
theorem d_198_203 : decode (mC 198) 203 = .ok (.iconst (-1), 1) := by decide +kernel
theorem d_198_204 : decode (mC 198) 204 = .ok (.ireturn, 1) := by decide +kernel
theorem k_105 : kd0 105 = 13 := by decide +kernel
theorem d_201_3 : decode (mC 201) 3 = .ok (.iload_n 2, 1) := by decide +kernel
theorem d_201_4 : decode (mC 201) 4 = .ok (.ifCond .lt 35, 3) := by decide +kernel
theorem d_201_7 : decode (mC 201) 7 = .ok (.aload_n 0, 1) := by decide +kernel
theorem d_201_8 : decode (mC 201) 8 = .ok (.getfield 7, 3) := by decide +kernel
theorem fk_CordLoftModel_7 : FK 2 "CordLoftModel" 7 12 0 := ⟨⟨_, rfl, by decide, List.mem_of_getElem? (i := 1291) (by decide +kernel)⟩, rfl, by decide⟩
theorem cn_201 : (mN 201).cls = "CordLoftModel" := by decide +kernel
theorem ft_13_0 : finT 13 0 = some (106, 0) := by decide +kernel
theorem k_106 : kd0 106 = 20 := by decide +kernel
theorem l_106 : ln0 106 = 1600 := by decide +kernel
theorem d_201_11 : decode (mC 201) 11 = .ok (.aload_n 0, 1) := by decide +kernel
theorem d_201_12 : decode (mC 201) 12 = .ok (.getfield 112, 3) := by decide +kernel
theorem fk_CordLoftModel_112 : FK 0 "CordLoftModel" 112 12 1 := ⟨⟨_, rfl, by decide, List.mem_of_getElem? (i := 1292) (by decide +kernel)⟩, rfl, by decide⟩
theorem d_201_15 : decode (mC 201) 15 = .ok (.iload_n 1, 1) := by decide +kernel
theorem d_201_16 : decode (mC 201) 16 = .ok (.iload_n 2, 1) := by decide +kernel
theorem d_201_17 : decode (mC 201) 17 = .ok (.ishr, 1) := by decide +kernel
theorem d_201_18 : decode (mC 201) 18 = .ok (.sipush 255, 3) := by decide +kernel
theorem d_201_21 : decode (mC 201) 21 = .ok (.iand, 1) := by decide +kernel
theorem d_201_22 : decode (mC 201) 22 = .ok (.iastore, 1) := by decide +kernel
theorem d_201_23 : decode (mC 201) 23 = .ok (.aload_n 0, 1) := by decide +kernel
theorem d_201_24 : decode (mC 201) 24 = .ok (.dup, 1) := by decide +kernel
theorem d_201_25 : decode (mC 201) 25 = .ok (.getfield 112, 3) := by decide +kernel
theorem d_201_28 : decode (mC 201) 28 = .ok (.iconst 1, 1) := by decide +kernel
theorem d_201_29 : decode (mC 201) 29 = .ok (.iadd, 1) := by decide +kernel
theorem d_201_30 : decode (mC 201) 30 = .ok (.putfield 112, 3) := by decide +kernel
theorem fp_CordLoftModel_112 : FP 0 "CordLoftModel" 112 12 1 := ⟨⟨_, rfl, by decide, List.mem_of_getElem? (i := 1292) (by decide +kernel), rfl⟩, rfl, by decide, by decide +kernel⟩
theorem d_201_33 : decode (mC 201) 33 = .ok (.iinc 2 (-8), 3) := by decide +kernel
theorem ml_201 : mL 201 = 3 := by decide +kernel
theorem d_201_36 : decode (mC 201) 36 = .ok (.goto (-33), 3) := by decide +kernel
theorem d_201_0 : decode (mC 201) 0 = .ok (.bipush 24, 2) := by decide +kernel
theorem d_201_2 : decode (mC 201) 2 = .ok (.istore_n 2, 1) := by decide +kernel
theorem d_201_39 : decode (mC 201) 39 = .ok (.return_, 1) := by decide +kernel
theorem mr_201 : mR 201 = none := by decide +kernel
theorem d_200_0 : decode (mC 200) 0 = .ok (.aload_n 0, 1) := by decide +kernel
theorem d_200_1 : decode (mC 200) 1 = .ok (.getfield 112, 3) := by decide +kernel
theorem cn_200 : (mN 200).cls = "CordLoftModel" := by decide +kernel
theorem d_200_4 : decode (mC 200) 4 = .ok (.bipush 20, 2) := by decide +kernel
theorem d_200_6 : decode (mC 200) 6 = .ok (.iadd, 1) := by decide +kernel
theorem d_200_7 : decode (mC 200) 7 = .ok (.sipush 1600, 3) := by decide +kernel
theorem d_200_10 : decode (mC 200) 10 = .ok (.if_icmp .le 5, 3) := by decide +kernel
theorem d_200_15 : decode (mC 200) 15 = .ok (.aload_n 0, 1) := by decide +kernel
theorem d_200_16 : decode (mC 200) 16 = .ok (.iload_n 1, 1) := by decide +kernel
theorem d_200_17 : decode (mC 200) 17 = .ok (.invokevirtual 115, 3) := by decide +kernel
theorem mo_201 : MOK 201 := ⟨List.mem_of_getElem? (i := 1512) (by decide +kernel), by decide +kernel, ⟨by decide +kernel, by decide +kernel⟩, List.mem_of_getElem? (i := 100) (by decide +kernel), by decide +kernel⟩
theorem m0_201 : M0K 201 := ⟨by decide +kernel, by decide +kernel⟩
theorem vk_200_115 : VK 200 115 201 1 12 := ⟨⟨List.mem_of_getElem? (i := 1509) (by decide +kernel), by decide +kernel⟩, List.mem_of_getElem? (i := 1511) (by decide +kernel), mo_201, m0_201, _, rfl, List.mem_of_getElem? (i := 29) (by decide +kernel), by decide⟩
theorem d_200_20 : decode (mC 200) 20 = .ok (.aload_n 0, 1) := by decide +kernel
theorem d_200_21 : decode (mC 200) 21 = .ok (.iload_n 2, 1) := by decide +kernel
theorem d_200_22 : decode (mC 200) 22 = .ok (.invokevirtual 115, 3) := by decide +kernel
theorem d_200_25 : decode (mC 200) 25 = .ok (.aload_n 0, 1) := by decide +kernel
theorem d_200_26 : decode (mC 200) 26 = .ok (.iload_n 3, 1) := by decide +kernel
theorem d_200_27 : decode (mC 200) 27 = .ok (.invokevirtual 115, 3) := by decide +kernel
theorem d_200_30 : decode (mC 200) 30 = .ok (.aload_n 0, 1) := by decide +kernel
theorem d_200_31 : decode (mC 200) 31 = .ok (.iload 4, 2) := by decide +kernel
theorem d_200_33 : decode (mC 200) 33 = .ok (.invokevirtual 115, 3) := by decide +kernel
theorem d_200_36 : decode (mC 200) 36 = .ok (.aload_n 0, 1) := by decide +kernel
theorem d_200_37 : decode (mC 200) 37 = .ok (.iload 5, 2) := by decide +kernel
theorem d_200_39 : decode (mC 200) 39 = .ok (.invokevirtual 115, 3) := by decide +kernel
theorem d_200_42 : decode (mC 200) 42 = .ok (.aload_n 0, 1) := by decide +kernel
theorem d_200_43 : decode (mC 200) 43 = .ok (.getfield 112, 3) := by decide +kernel
theorem d_200_46 : decode (mC 200) 46 = .ok (.ireturn, 1) := by decide +kernel
theorem mr_200 : mR 200 = some .int := by decide +kernel
theorem d_200_13 : decode (mC 200) 13 = .ok (.iconst (-1), 1) := by decide +kernel
theorem d_200_14 : decode (mC 200) 14 = .ok (.ireturn, 1) := by decide +kernel
theorem ml_200 : mL 200 = 6 := by decide +kernel
theorem d_202_0 : decode (mC 202) 0 = .ok (.iload_n 1, 1) := by decide +kernel
theorem d_202_1 : decode (mC 202) 1 = .ok (.ifCond .lt 11, 3) := by decide +kernel
theorem d_202_12 : decode (mC 202) 12 = .ok (.iconst (-1), 1) := by decide +kernel
theorem d_202_13 : decode (mC 202) 13 = .ok (.ireturn, 1) := by decide +kernel
theorem mr_202 : mR 202 = some .int := by decide +kernel
theorem d_202_4 : decode (mC 202) 4 = .ok (.iload_n 1, 1) := by decide +kernel
theorem d_202_5 : decode (mC 202) 5 = .ok (.aload_n 0, 1) := by decide +kernel
theorem d_202_6 : decode (mC 202) 6 = .ok (.getfield 112, 3) := by decide +kernel
theorem cn_202 : (mN 202).cls = "CordLoftModel" := by decide +kernel
theorem d_202_9 : decode (mC 202) 9 = .ok (.if_icmp .le 5, 3) := by decide +kernel
theorem d_202_14 : decode (mC 202) 14 = .ok (.aload_n 0, 1) := by decide +kernel
theorem d_202_15 : decode (mC 202) 15 = .ok (.iload_n 1, 1) := by decide +kernel
theorem d_202_16 : decode (mC 202) 16 = .ok (.putfield 112, 3) := by decide +kernel
theorem d_202_19 : decode (mC 202) 19 = .ok (.iload_n 1, 1) := by decide +kernel
theorem d_202_20 : decode (mC 202) 20 = .ok (.ireturn, 1) := by decide +kernel
theorem ml_202 : mL 202 = 2 := by decide +kernel
theorem d_206_0 : decode (mC 206) 0 = .ok (.aload_n 0, 1) := by decide +kernel
theorem d_206_1 : decode (mC 206) 1 = .ok (.getfield 119, 3) := by decide +kernel
theorem fk_CordLoftModel_119 : FK 0 "CordLoftModel" 119 12 4 := ⟨⟨_, rfl, by decide, List.mem_of_getElem? (i := 1295) (by decide +kernel)⟩, rfl, by decide⟩
theorem cn_206 : (mN 206).cls = "CordLoftModel" := by decide +kernel
theorem d_206_4 : decode (mC 206) 4 = .ok (.iload_n 1, 1) := by decide +kernel
theorem d_206_5 : decode (mC 206) 5 = .ok (.iadd, 1) := by decide +kernel
theorem d_206_6 : decode (mC 206) 6 = .ok (.aload_n 0, 1) := by decide +kernel
theorem d_206_7 : decode (mC 206) 7 = .ok (.getfield 122, 3) := by decide +kernel
theorem fk_CordLoftModel_122 : FK 0 "CordLoftModel" 122 12 5 := ⟨⟨_, rfl, by decide, List.mem_of_getElem? (i := 1296) (by decide +kernel)⟩, rfl, by decide⟩
theorem d_206_10 : decode (mC 206) 10 = .ok (.if_icmp .ge 17, 3) := by decide +kernel
theorem d_206_27 : decode (mC 206) 27 = .ok (.iconst (-1), 1) := by decide +kernel
theorem d_206_28 : decode (mC 206) 28 = .ok (.ireturn, 1) := by decide +kernel
theorem mr_206 : mR 206 = some .int := by decide +kernel
theorem d_206_13 : decode (mC 206) 13 = .ok (.aload_n 0, 1) := by decide +kernel
theorem d_206_14 : decode (mC 206) 14 = .ok (.getfield 7, 3) := by decide +kernel
theorem d_206_17 : decode (mC 206) 17 = .ok (.aload_n 0, 1) := by decide +kernel
theorem d_206_18 : decode (mC 206) 18 = .ok (.getfield 119, 3) := by decide +kernel
theorem d_206_21 : decode (mC 206) 21 = .ok (.iload_n 1, 1) := by decide +kernel
theorem d_206_22 : decode (mC 206) 22 = .ok (.iadd, 1) := by decide +kernel
theorem d_206_23 : decode (mC 206) 23 = .ok (.iaload, 1) := by decide +kernel
theorem d_206_24 : decode (mC 206) 24 = .ok (.goto 4, 3) := by decide +kernel
theorem ml_206 : mL 206 = 2 := by decide +kernel
theorem d_207_0 : decode (mC 207) 0 = .ok (.iload_n 0, 1) := by decide +kernel
theorem d_207_1 : decode (mC 207) 1 = .ok (.bipush 97, 2) := by decide +kernel
theorem d_207_3 : decode (mC 207) 3 = .ok (.if_icmp .lt 13, 3) := by decide +kernel
theorem d_207_16 : decode (mC 207) 16 = .ok (.iconst 0, 1) := by decide +kernel
theorem d_207_17 : decode (mC 207) 17 = .ok (.ireturn, 1) := by decide +kernel
theorem mr_207 : mR 207 = some .boolean := by decide +kernel
theorem d_207_6 : decode (mC 207) 6 = .ok (.iload_n 0, 1) := by decide +kernel
theorem d_207_7 : decode (mC 207) 7 = .ok (.bipush 122, 2) := by decide +kernel
theorem d_207_9 : decode (mC 207) 9 = .ok (.if_icmp .gt 7, 3) := by decide +kernel
theorem d_207_12 : decode (mC 207) 12 = .ok (.iconst 1, 1) := by decide +kernel
theorem d_207_13 : decode (mC 207) 13 = .ok (.goto 4, 3) := by decide +kernel
theorem ml_207 : mL 207 = 1 := by decide +kernel
theorem d_208_0 : decode (mC 208) 0 = .ok (.iload_n 0, 1) := by decide +kernel
theorem d_208_1 : decode (mC 208) 1 = .ok (.bipush 48, 2) := by decide +kernel
theorem d_208_3 : decode (mC 208) 3 = .ok (.if_icmp .lt 13, 3) := by decide +kernel
theorem d_208_16 : decode (mC 208) 16 = .ok (.iconst 0, 1) := by decide +kernel
theorem d_208_17 : decode (mC 208) 17 = .ok (.ireturn, 1) := by decide +kernel
theorem mr_208 : mR 208 = some .boolean := by decide +kernel
theorem d_208_6 : decode (mC 208) 6 = .ok (.iload_n 0, 1) := by decide +kernel
theorem d_208_7 : decode (mC 208) 7 = .ok (.bipush 57, 2) := by decide +kernel
theorem d_208_9 : decode (mC 208) 9 = .ok (.if_icmp .gt 7, 3) := by decide +kernel
theorem d_208_12 : decode (mC 208) 12 = .ok (.iconst 1, 1) := by decide +kernel
theorem d_208_13 : decode (mC 208) 13 = .ok (.goto 4, 3) := by decide +kernel
theorem ml_208 : mL 208 = 1 := by decide +kernel
theorem d_209_66 : decode (mC 209) 66 = .ok (.iconst 1, 1) := by decide +kernel
theorem d_209_67 : decode (mC 209) 67 = .ok (.goto 4, 3) := by decide +kernel
theorem d_209_71 : decode (mC 209) 71 = .ok (.ireturn, 1) := by decide +kernel
theorem mr_209 : mR 209 = some .boolean := by decide +kernel
theorem d_209_0 : decode (mC 209) 0 = .ok (.iload_n 0, 1) := by decide +kernel
theorem d_209_1 : decode (mC 209) 1 = .ok (.bipush 59, 2) := by decide +kernel
theorem d_209_3 : decode (mC 209) 3 = .ok (.if_icmp .eq 63, 3) := by decide +kernel
theorem d_209_6 : decode (mC 209) 6 = .ok (.iload_n 0, 1) := by decide +kernel
theorem d_209_7 : decode (mC 209) 7 = .ok (.bipush 40, 2) := by decide +kernel
theorem d_209_9 : decode (mC 209) 9 = .ok (.if_icmp .eq 57, 3) := by decide +kernel
theorem d_209_12 : decode (mC 209) 12 = .ok (.iload_n 0, 1) := by decide +kernel
theorem d_209_13 : decode (mC 209) 13 = .ok (.bipush 41, 2) := by decide +kernel
theorem d_209_15 : decode (mC 209) 15 = .ok (.if_icmp .eq 51, 3) := by decide +kernel
theorem d_209_18 : decode (mC 209) 18 = .ok (.iload_n 0, 1) := by decide +kernel
theorem d_209_19 : decode (mC 209) 19 = .ok (.bipush 60, 2) := by decide +kernel
theorem d_209_21 : decode (mC 209) 21 = .ok (.if_icmp .eq 45, 3) := by decide +kernel
theorem d_209_24 : decode (mC 209) 24 = .ok (.iload_n 0, 1) := by decide +kernel
theorem d_209_25 : decode (mC 209) 25 = .ok (.bipush 62, 2) := by decide +kernel
theorem d_209_27 : decode (mC 209) 27 = .ok (.if_icmp .eq 39, 3) := by decide +kernel
theorem d_209_30 : decode (mC 209) 30 = .ok (.iload_n 0, 1) := by decide +kernel
theorem d_209_31 : decode (mC 209) 31 = .ok (.bipush 61, 2) := by decide +kernel
theorem d_209_33 : decode (mC 209) 33 = .ok (.if_icmp .eq 33, 3) := by decide +kernel
theorem d_209_36 : decode (mC 209) 36 = .ok (.iload_n 0, 1) := by decide +kernel
theorem d_209_37 : decode (mC 209) 37 = .ok (.bipush 43, 2) := by decide +kernel
theorem bi_43 : (Int8.ofInt 43).toInt32 = 43 := by decide +kernel
theorem d_209_39 : decode (mC 209) 39 = .ok (.if_icmp .eq 27, 3) := by decide +kernel
theorem d_209_42 : decode (mC 209) 42 = .ok (.iload_n 0, 1) := by decide +kernel
theorem d_209_43 : decode (mC 209) 43 = .ok (.bipush 45, 2) := by decide +kernel
theorem bi_45 : (Int8.ofInt 45).toInt32 = 45 := by decide +kernel
theorem d_209_45 : decode (mC 209) 45 = .ok (.if_icmp .eq 21, 3) := by decide +kernel
theorem d_209_48 : decode (mC 209) 48 = .ok (.iload_n 0, 1) := by decide +kernel
theorem d_209_49 : decode (mC 209) 49 = .ok (.bipush 42, 2) := by decide +kernel
theorem bi_42 : (Int8.ofInt 42).toInt32 = 42 := by decide +kernel
theorem d_209_51 : decode (mC 209) 51 = .ok (.if_icmp .eq 15, 3) := by decide +kernel
theorem d_209_54 : decode (mC 209) 54 = .ok (.iload_n 0, 1) := by decide +kernel
theorem d_209_55 : decode (mC 209) 55 = .ok (.bipush 47, 2) := by decide +kernel
theorem bi_47 : (Int8.ofInt 47).toInt32 = 47 := by decide +kernel
theorem d_209_57 : decode (mC 209) 57 = .ok (.if_icmp .eq 9, 3) := by decide +kernel
theorem d_209_60 : decode (mC 209) 60 = .ok (.iload_n 0, 1) := by decide +kernel
theorem d_209_61 : decode (mC 209) 61 = .ok (.bipush 37, 2) := by decide +kernel
theorem bi_37 : (Int8.ofInt 37).toInt32 = 37 := by decide +kernel
theorem d_209_63 : decode (mC 209) 63 = .ok (.if_icmp .ne 7, 3) := by decide +kernel
theorem d_209_70 : decode (mC 209) 70 = .ok (.iconst 0, 1) := by decide +kernel
theorem ml_209 : mL 209 = 1 := by decide +kernel
theorem d_205_232 : decode (mC 205) 232 = .ok (.aload_n 0, 1) := by decide +kernel
theorem d_205_233 : decode (mC 205) 233 = .ok (.getfield 139, 3) := by decide +kernel
theorem fk_CordLoftModel_139 : FK 0 "CordLoftModel" 139 12 6 := ⟨⟨_, rfl, by decide, List.mem_of_getElem? (i := 1297) (by decide +kernel)⟩, rfl, by decide⟩
theorem cn_205 : (mN 205).cls = "CordLoftModel" := by decide +kernel
theorem d_205_236 : decode (mC 205) 236 = .ok (.iconst 3, 1) := by decide +kernel
theorem d_205_237 : decode (mC 205) 237 = .ok (.if_icmp .eq 13, 3) := by decide +kernel
theorem d_205_250 : decode (mC 205) 250 = .ok (.return_, 1) := by decide +kernel
theorem mr_205 : mR 205 = none := by decide +kernel
theorem d_205_240 : decode (mC 205) 240 = .ok (.aload_n 0, 1) := by decide +kernel
theorem d_205_241 : decode (mC 205) 241 = .ok (.dup, 1) := by decide +kernel
theorem d_205_242 : decode (mC 205) 242 = .ok (.getfield 119, 3) := by decide +kernel
theorem d_205_245 : decode (mC 205) 245 = .ok (.iload_n 2, 1) := by decide +kernel
theorem d_205_246 : decode (mC 205) 246 = .ok (.iadd, 1) := by decide +kernel
theorem d_205_247 : decode (mC 205) 247 = .ok (.putfield 119, 3) := by decide +kernel
theorem fp_CordLoftModel_119 : FP 0 "CordLoftModel" 119 12 4 := ⟨⟨_, rfl, by decide, List.mem_of_getElem? (i := 1295) (by decide +kernel), rfl⟩, rfl, by decide, by decide +kernel⟩
theorem d_205_229 : decode (mC 205) 229 = .ok (.putfield 139, 3) := by decide +kernel
theorem fp_CordLoftModel_139 : FP 0 "CordLoftModel" 139 12 6 := ⟨⟨_, rfl, by decide, List.mem_of_getElem? (i := 1297) (by decide +kernel), rfl⟩, rfl, by decide, by decide +kernel⟩
theorem d_205_208 : decode (mC 205) 208 = .ok (.putfield 139, 3) := by decide +kernel
theorem d_205_211 : decode (mC 205) 211 = .ok (.goto 21, 3) := by decide +kernel
theorem d_205_203 : decode (mC 205) 203 = .ok (.iconst 3, 1) := by decide +kernel
theorem d_205_204 : decode (mC 205) 204 = .ok (.goto 4, 3) := by decide +kernel
theorem d_205_144 : decode (mC 205) 144 = .ok (.aload_n 0, 1) := by decide +kernel
theorem d_205_145 : decode (mC 205) 145 = .ok (.iload_n 2, 1) := by decide +kernel
theorem d_205_146 : decode (mC 205) 146 = .ok (.invokevirtual 125, 3) := by decide +kernel
theorem mo_206 : MOK 206 := ⟨List.mem_of_getElem? (i := 1532) (by decide +kernel), by decide +kernel, ⟨by decide +kernel, by decide +kernel⟩, List.mem_of_getElem? (i := 100) (by decide +kernel), by decide +kernel⟩
theorem m0_206 : M0K 206 := ⟨by decide +kernel, by decide +kernel⟩
theorem vk_205_125 : VK 205 125 206 1 12 := ⟨⟨List.mem_of_getElem? (i := 1529) (by decide +kernel), by decide +kernel⟩, List.mem_of_getElem? (i := 1531) (by decide +kernel), mo_206, m0_206, _, rfl, List.mem_of_getElem? (i := 32) (by decide +kernel), by decide⟩
theorem d_205_149 : decode (mC 205) 149 = .ok (.invokestatic 146, 3) := by decide +kernel
theorem mo_208 : MOK 208 := ⟨List.mem_of_getElem? (i := 1538) (by decide +kernel), by decide +kernel, ⟨by decide +kernel, by decide +kernel⟩, List.mem_of_getElem? (i := 100) (by decide +kernel), by decide +kernel⟩
theorem m0_208 : M0K 208 := ⟨by decide +kernel, by decide +kernel⟩
theorem sk_205_146 : SKc 205 146 208 1 := ⟨⟨List.mem_of_getElem? (i := 1536) (by decide +kernel), by decide +kernel⟩, List.mem_of_getElem? (i := 1537) (by decide +kernel), mo_208, m0_208⟩
theorem d_205_152 : decode (mC 205) 152 = .ok (.ifCond .eq 34, 3) := by decide +kernel
theorem d_205_155 : decode (mC 205) 155 = .ok (.iload_n 2, 1) := by decide +kernel
theorem d_205_156 : decode (mC 205) 156 = .ok (.iconst 4, 1) := by decide +kernel
theorem d_205_157 : decode (mC 205) 157 = .ok (.if_icmp .ge 23, 3) := by decide +kernel
theorem d_205_180 : decode (mC 205) 180 = .ok (.iinc 2 1, 3) := by decide +kernel
theorem ml_205 : mL 205 = 3 := by decide +kernel
theorem d_205_183 : decode (mC 205) 183 = .ok (.goto (-39), 3) := by decide +kernel
theorem d_205_160 : decode (mC 205) 160 = .ok (.aload_n 0, 1) := by decide +kernel
theorem d_205_161 : decode (mC 205) 161 = .ok (.bipush 10, 2) := by decide +kernel
theorem d_205_163 : decode (mC 205) 163 = .ok (.aload_n 0, 1) := by decide +kernel
theorem d_205_164 : decode (mC 205) 164 = .ok (.getfield 136, 3) := by decide +kernel
theorem fk_CordLoftModel_136 : FK 0 "CordLoftModel" 136 12 8 := ⟨⟨_, rfl, by decide, List.mem_of_getElem? (i := 1299) (by decide +kernel)⟩, rfl, by decide⟩
theorem d_205_167 : decode (mC 205) 167 = .ok (.imul, 1) := by decide +kernel
theorem d_205_168 : decode (mC 205) 168 = .ok (.aload_n 0, 1) := by decide +kernel
theorem d_205_169 : decode (mC 205) 169 = .ok (.iload_n 2, 1) := by decide +kernel
theorem d_205_170 : decode (mC 205) 170 = .ok (.invokevirtual 125, 3) := by decide +kernel
theorem d_205_173 : decode (mC 205) 173 = .ok (.iadd, 1) := by decide +kernel
theorem d_205_174 : decode (mC 205) 174 = .ok (.bipush 48, 2) := by decide +kernel
theorem d_205_176 : decode (mC 205) 176 = .ok (.isub, 1) := by decide +kernel
theorem d_205_177 : decode (mC 205) 177 = .ok (.putfield 136, 3) := by decide +kernel
theorem fp_CordLoftModel_136 : FP 0 "CordLoftModel" 136 12 8 := ⟨⟨_, rfl, by decide, List.mem_of_getElem? (i := 1299) (by decide +kernel), rfl⟩, rfl, by decide, by decide +kernel⟩
theorem d_205_131 : decode (mC 205) 131 = .ok (.putfield 139, 3) := by decide +kernel
theorem d_205_134 : decode (mC 205) 134 = .ok (.goto 98, 3) := by decide +kernel
theorem d_205_78 : decode (mC 205) 78 = .ok (.aload_n 0, 1) := by decide +kernel
theorem d_205_79 : decode (mC 205) 79 = .ok (.iload_n 2, 1) := by decide +kernel
theorem d_205_80 : decode (mC 205) 80 = .ok (.invokevirtual 125, 3) := by decide +kernel
theorem d_205_83 : decode (mC 205) 83 = .ok (.invokestatic 142, 3) := by decide +kernel
theorem mo_207 : MOK 207 := ⟨List.mem_of_getElem? (i := 1535) (by decide +kernel), by decide +kernel, ⟨by decide +kernel, by decide +kernel⟩, List.mem_of_getElem? (i := 100) (by decide +kernel), by decide +kernel⟩
theorem m0_207 : M0K 207 := ⟨by decide +kernel, by decide +kernel⟩
theorem sk_205_142 : SKc 205 142 207 1 := ⟨⟨List.mem_of_getElem? (i := 1533) (by decide +kernel), by decide +kernel⟩, List.mem_of_getElem? (i := 1534) (by decide +kernel), mo_207, m0_207⟩
theorem d_205_86 : decode (mC 205) 86 = .ok (.ifCond .eq 33, 3) := by decide +kernel
theorem d_205_89 : decode (mC 205) 89 = .ok (.iload_n 2, 1) := by decide +kernel
theorem d_205_90 : decode (mC 205) 90 = .ok (.bipush 8, 2) := by decide +kernel
theorem d_205_92 : decode (mC 205) 92 = .ok (.if_icmp .ge 21, 3) := by decide +kernel
theorem d_205_113 : decode (mC 205) 113 = .ok (.iinc 2 1, 3) := by decide +kernel
theorem d_205_116 : decode (mC 205) 116 = .ok (.goto (-38), 3) := by decide +kernel
theorem d_205_95 : decode (mC 205) 95 = .ok (.aload_n 0, 1) := by decide +kernel
theorem d_205_96 : decode (mC 205) 96 = .ok (.aload_n 0, 1) := by decide +kernel
theorem d_205_97 : decode (mC 205) 97 = .ok (.getfield 132, 3) := by decide +kernel
theorem fk_CordLoftModel_132 : FK 1 "CordLoftModel" 132 12 9 := ⟨⟨_, rfl, by decide, List.mem_of_getElem? (i := 1300) (by decide +kernel)⟩, rfl, by decide⟩
theorem d_205_100 : decode (mC 205) 100 = .ok (.bipush 8, 2) := by decide +kernel
theorem d_205_102 : decode (mC 205) 102 = .ok (.lshl, 1) := by decide +kernel
theorem d_205_103 : decode (mC 205) 103 = .ok (.aload_n 0, 1) := by decide +kernel
theorem d_205_104 : decode (mC 205) 104 = .ok (.iload_n 2, 1) := by decide +kernel
theorem d_205_105 : decode (mC 205) 105 = .ok (.invokevirtual 125, 3) := by decide +kernel
theorem d_205_108 : decode (mC 205) 108 = .ok (.i2l, 1) := by decide +kernel
theorem d_205_109 : decode (mC 205) 109 = .ok (.lor, 1) := by decide +kernel
theorem d_205_110 : decode (mC 205) 110 = .ok (.putfield 132, 3) := by decide +kernel
theorem fp_CordLoftModel_132 : FP 1 "CordLoftModel" 132 12 9 := ⟨⟨_, rfl, by decide, List.mem_of_getElem? (i := 1300) (by decide +kernel), rfl⟩, rfl, by decide, by decide +kernel⟩
theorem d_205_20 : decode (mC 205) 20 = .ok (.aload_n 0, 1) := by decide +kernel
theorem d_205_21 : decode (mC 205) 21 = .ok (.dup, 1) := by decide +kernel
theorem d_205_22 : decode (mC 205) 22 = .ok (.getfield 119, 3) := by decide +kernel
theorem d_205_25 : decode (mC 205) 25 = .ok (.iconst 1, 1) := by decide +kernel
theorem d_205_26 : decode (mC 205) 26 = .ok (.iadd, 1) := by decide +kernel
theorem d_205_27 : decode (mC 205) 27 = .ok (.putfield 119, 3) := by decide +kernel
theorem d_205_30 : decode (mC 205) 30 = .ok (.goto (-30), 3) := by decide +kernel
theorem d_205_0 : decode (mC 205) 0 = .ok (.aload_n 0, 1) := by decide +kernel
theorem d_205_1 : decode (mC 205) 1 = .ok (.iconst 0, 1) := by decide +kernel
theorem d_205_2 : decode (mC 205) 2 = .ok (.invokevirtual 125, 3) := by decide +kernel
theorem d_205_5 : decode (mC 205) 5 = .ok (.bipush 32, 2) := by decide +kernel
theorem d_205_7 : decode (mC 205) 7 = .ok (.if_icmp .eq 13, 3) := by decide +kernel
theorem d_205_10 : decode (mC 205) 10 = .ok (.aload_n 0, 1) := by decide +kernel
theorem d_205_11 : decode (mC 205) 11 = .ok (.iconst 0, 1) := by decide +kernel
theorem d_205_12 : decode (mC 205) 12 = .ok (.invokevirtual 125, 3) := by decide +kernel
theorem d_205_15 : decode (mC 205) 15 = .ok (.bipush 10, 2) := by decide +kernel
theorem d_205_17 : decode (mC 205) 17 = .ok (.if_icmp .ne 16, 3) := by decide +kernel
theorem d_205_33 : decode (mC 205) 33 = .ok (.aload_n 0, 1) := by decide +kernel
theorem d_205_34 : decode (mC 205) 34 = .ok (.aload_n 0, 1) := by decide +kernel
theorem d_205_35 : decode (mC 205) 35 = .ok (.getfield 119, 3) := by decide +kernel
theorem d_205_38 : decode (mC 205) 38 = .ok (.putfield 129, 3) := by decide +kernel
theorem fp_CordLoftModel_129 : FP 0 "CordLoftModel" 129 12 7 := ⟨⟨_, rfl, by decide, List.mem_of_getElem? (i := 1298) (by decide +kernel), rfl⟩, rfl, by decide, by decide +kernel⟩
theorem d_205_41 : decode (mC 205) 41 = .ok (.aload_n 0, 1) := by decide +kernel
theorem d_205_42 : decode (mC 205) 42 = .ok (.iconst 0, 1) := by decide +kernel
theorem d_205_43 : decode (mC 205) 43 = .ok (.invokevirtual 125, 3) := by decide +kernel
theorem d_205_46 : decode (mC 205) 46 = .ok (.istore_n 1, 1) := by decide +kernel
theorem d_205_47 : decode (mC 205) 47 = .ok (.iconst 0, 1) := by decide +kernel
theorem d_205_48 : decode (mC 205) 48 = .ok (.istore_n 2, 1) := by decide +kernel
theorem d_205_49 : decode (mC 205) 49 = .ok (.aload_n 0, 1) := by decide +kernel
theorem d_205_50 : decode (mC 205) 50 = .ok (.lconst 0, 1) := by decide +kernel
theorem d_205_51 : decode (mC 205) 51 = .ok (.putfield 132, 3) := by decide +kernel
theorem d_205_54 : decode (mC 205) 54 = .ok (.aload_n 0, 1) := by decide +kernel
theorem d_205_55 : decode (mC 205) 55 = .ok (.iconst 0, 1) := by decide +kernel
theorem d_205_56 : decode (mC 205) 56 = .ok (.putfield 136, 3) := by decide +kernel
theorem d_205_59 : decode (mC 205) 59 = .ok (.iload_n 1, 1) := by decide +kernel
theorem d_205_60 : decode (mC 205) 60 = .ok (.ifCond .ge 11, 3) := by decide +kernel
theorem d_205_71 : decode (mC 205) 71 = .ok (.iload_n 1, 1) := by decide +kernel
theorem d_205_72 : decode (mC 205) 72 = .ok (.invokestatic 142, 3) := by decide +kernel
theorem d_205_75 : decode (mC 205) 75 = .ok (.ifCond .eq 62, 3) := by decide +kernel
theorem d_205_137 : decode (mC 205) 137 = .ok (.iload_n 1, 1) := by decide +kernel
theorem d_205_138 : decode (mC 205) 138 = .ok (.invokestatic 146, 3) := by decide +kernel
theorem d_205_141 : decode (mC 205) 141 = .ok (.ifCond .eq 73, 3) := by decide +kernel
theorem d_205_214 : decode (mC 205) 214 = .ok (.iconst 1, 1) := by decide +kernel
theorem d_205_215 : decode (mC 205) 215 = .ok (.istore_n 2, 1) := by decide +kernel
theorem d_205_216 : decode (mC 205) 216 = .ok (.aload_n 0, 1) := by decide +kernel
theorem d_205_217 : decode (mC 205) 217 = .ok (.iload_n 1, 1) := by decide +kernel
theorem d_205_218 : decode (mC 205) 218 = .ok (.invokestatic 149, 3) := by decide +kernel
theorem mo_209 : MOK 209 := ⟨List.mem_of_getElem? (i := 1541) (by decide +kernel), by decide +kernel, ⟨by decide +kernel, by decide +kernel⟩, List.mem_of_getElem? (i := 100) (by decide +kernel), by decide +kernel⟩
theorem m0_209 : M0K 209 := ⟨by decide +kernel, by decide +kernel⟩
theorem sk_205_149 : SKc 205 149 209 1 := ⟨⟨List.mem_of_getElem? (i := 1539) (by decide +kernel), by decide +kernel⟩, List.mem_of_getElem? (i := 1540) (by decide +kernel), mo_209, m0_209⟩
theorem d_205_221 : decode (mC 205) 221 = .ok (.ifCond .eq 7, 3) := by decide +kernel
theorem d_205_228 : decode (mC 205) 228 = .ok (.iconst 3, 1) := by decide +kernel
theorem d_205_224 : decode (mC 205) 224 = .ok (.iload_n 1, 1) := by decide +kernel
theorem d_205_225 : decode (mC 205) 225 = .ok (.goto 4, 3) := by decide +kernel
theorem d_205_186 : decode (mC 205) 186 = .ok (.aload_n 0, 1) := by decide +kernel
theorem d_205_187 : decode (mC 205) 187 = .ok (.iload_n 2, 1) := by decide +kernel
theorem d_205_188 : decode (mC 205) 188 = .ok (.iconst 4, 1) := by decide +kernel
theorem d_205_189 : decode (mC 205) 189 = .ok (.if_icmp .gt 14, 3) := by decide +kernel
theorem d_205_192 : decode (mC 205) 192 = .ok (.aload_n 0, 1) := by decide +kernel
theorem d_205_193 : decode (mC 205) 193 = .ok (.iload_n 2, 1) := by decide +kernel
theorem d_205_194 : decode (mC 205) 194 = .ok (.invokevirtual 125, 3) := by decide +kernel
theorem d_205_197 : decode (mC 205) 197 = .ok (.invokestatic 142, 3) := by decide +kernel
theorem d_205_200 : decode (mC 205) 200 = .ok (.ifCond .eq 7, 3) := by decide +kernel
theorem d_205_207 : decode (mC 205) 207 = .ok (.iconst 2, 1) := by decide +kernel
theorem d_205_119 : decode (mC 205) 119 = .ok (.aload_n 0, 1) := by decide +kernel
theorem d_205_120 : decode (mC 205) 120 = .ok (.iload_n 2, 1) := by decide +kernel
theorem d_205_121 : decode (mC 205) 121 = .ok (.bipush 8, 2) := by decide +kernel
theorem d_205_123 : decode (mC 205) 123 = .ok (.if_icmp .le 7, 3) := by decide +kernel
theorem d_205_130 : decode (mC 205) 130 = .ok (.iconst 1, 1) := by decide +kernel
theorem d_205_126 : decode (mC 205) 126 = .ok (.iconst 3, 1) := by decide +kernel
theorem d_205_127 : decode (mC 205) 127 = .ok (.goto 4, 3) := by decide +kernel
theorem d_205_63 : decode (mC 205) 63 = .ok (.aload_n 0, 1) := by decide +kernel
theorem d_205_64 : decode (mC 205) 64 = .ok (.iconst 0, 1) := by decide +kernel
theorem d_205_65 : decode (mC 205) 65 = .ok (.putfield 139, 3) := by decide +kernel
theorem d_205_68 : decode (mC 205) 68 = .ok (.goto 164, 3) := by decide +kernel
theorem d_211_0 : decode (mC 211) 0 = .ok (.aload_n 0, 1) := by decide +kernel
theorem d_211_1 : decode (mC 211) 1 = .ok (.getfield 139, 3) := by decide +kernel
theorem cn_211 : (mN 211).cls = "CordLoftModel" := by decide +kernel
theorem d_211_4 : decode (mC 211) 4 = .ok (.iconst 1, 1) := by decide +kernel
theorem d_211_5 : decode (mC 211) 5 = .ok (.if_icmp .ne 16, 3) := by decide +kernel
theorem d_211_21 : decode (mC 211) 21 = .ok (.iconst 0, 1) := by decide +kernel
theorem d_211_22 : decode (mC 211) 22 = .ok (.ireturn, 1) := by decide +kernel
theorem mr_211 : mR 211 = some .boolean := by decide +kernel
theorem d_211_8 : decode (mC 211) 8 = .ok (.aload_n 0, 1) := by decide +kernel
theorem d_211_9 : decode (mC 211) 9 = .ok (.getfield 132, 3) := by decide +kernel
theorem d_211_12 : decode (mC 211) 12 = .ok (.lload_n 1, 1) := by decide +kernel
theorem d_211_13 : decode (mC 211) 13 = .ok (.lcmp, 1) := by decide +kernel
theorem d_211_14 : decode (mC 211) 14 = .ok (.ifCond .ne 7, 3) := by decide +kernel
theorem d_211_17 : decode (mC 211) 17 = .ok (.iconst 1, 1) := by decide +kernel
theorem d_211_18 : decode (mC 211) 18 = .ok (.goto 4, 3) := by decide +kernel
theorem ml_211 : mL 211 = 3 := by decide +kernel
theorem d_215_198 : decode (mC 215) 198 = .ok (.iconst 1, 1) := by decide +kernel
theorem d_215_199 : decode (mC 215) 199 = .ok (.goto 4, 3) := by decide +kernel
theorem d_215_203 : decode (mC 215) 203 = .ok (.ireturn, 1) := by decide +kernel
theorem mr_215 : mR 215 = some .boolean := by decide +kernel
theorem d_215_0 : decode (mC 215) 0 = .ok (.aload_n 0, 1) := by decide +kernel
theorem d_215_1 : decode (mC 215) 1 = .ok (.getfield 132, 3) := by decide +kernel
theorem cn_215 : (mN 215).cls = "CordLoftModel" := by decide +kernel
theorem d_215_4 : decode (mC 215) 4 = .ok (.ldc2_w 155, 3) := by decide +kernel
theorem cl_CordLoftModel_155 : Cond.constantLong "CordLoftModel" 155 1818324336 ∈ lw_tbl := List.mem_of_getElem? (i := 1546) (by decide +kernel)
theorem d_215_7 : decode (mC 215) 7 = .ok (.lcmp, 1) := by decide +kernel
theorem d_215_8 : decode (mC 215) 8 = .ok (.ifCond .eq 190, 3) := by decide +kernel
theorem d_215_11 : decode (mC 215) 11 = .ok (.aload_n 0, 1) := by decide +kernel
theorem d_215_12 : decode (mC 215) 12 = .ok (.getfield 132, 3) := by decide +kernel
theorem d_215_15 : decode (mC 215) 15 = .ok (.ldc2_w 157, 3) := by decide +kernel
theorem cl_CordLoftModel_157 : Cond.constantLong "CordLoftModel" 157 7104884 ∈ lw_tbl := List.mem_of_getElem? (i := 1567) (by decide +kernel)
theorem d_215_18 : decode (mC 215) 18 = .ok (.lcmp, 1) := by decide +kernel
theorem d_215_19 : decode (mC 215) 19 = .ok (.ifCond .eq 179, 3) := by decide +kernel
theorem d_215_22 : decode (mC 215) 22 = .ok (.aload_n 0, 1) := by decide +kernel
theorem d_215_23 : decode (mC 215) 23 = .ok (.getfield 132, 3) := by decide +kernel
theorem d_215_26 : decode (mC 215) 26 = .ok (.ldc2_w 159, 3) := by decide +kernel
theorem cl_CordLoftModel_159 : Cond.constantLong "CordLoftModel" 159 512736130163 ∈ lw_tbl := List.mem_of_getElem? (i := 1568) (by decide +kernel)
theorem d_215_29 : decode (mC 215) 29 = .ok (.lcmp, 1) := by decide +kernel
theorem d_215_30 : decode (mC 215) 30 = .ok (.ifCond .eq 168, 3) := by decide +kernel
theorem d_215_33 : decode (mC 215) 33 = .ok (.aload_n 0, 1) := by decide +kernel
theorem d_215_34 : decode (mC 215) 34 = .ok (.getfield 132, 3) := by decide +kernel
theorem d_215_37 : decode (mC 215) 37 = .ok (.ldc2_w 161, 3) := by decide +kernel
theorem cl_CordLoftModel_161 : Cond.constantLong "CordLoftModel" 161 1668248164 ∈ lw_tbl := List.mem_of_getElem? (i := 1569) (by decide +kernel)
theorem d_215_40 : decode (mC 215) 40 = .ok (.lcmp, 1) := by decide +kernel
theorem d_215_41 : decode (mC 215) 41 = .ok (.ifCond .eq 157, 3) := by decide +kernel
theorem d_215_44 : decode (mC 215) 44 = .ok (.aload_n 0, 1) := by decide +kernel
theorem d_215_45 : decode (mC 215) 45 = .ok (.getfield 132, 3) := by decide +kernel
theorem d_215_48 : decode (mC 215) 48 = .ok (.ldc2_w 163, 3) := by decide +kernel
theorem cl_CordLoftModel_163 : Cond.constantLong "CordLoftModel" 163 500186639987 ∈ lw_tbl := List.mem_of_getElem? (i := 1570) (by decide +kernel)
theorem d_215_51 : decode (mC 215) 51 = .ok (.lcmp, 1) := by decide +kernel
theorem d_215_52 : decode (mC 215) 52 = .ok (.ifCond .eq 146, 3) := by decide +kernel
theorem d_215_55 : decode (mC 215) 55 = .ok (.aload_n 0, 1) := by decide +kernel
theorem d_215_56 : decode (mC 215) 56 = .ok (.getfield 132, 3) := by decide +kernel
theorem d_215_59 : decode (mC 215) 59 = .ok (.ldc2_w 165, 3) := by decide +kernel
theorem cl_CordLoftModel_165 : Cond.constantLong "CordLoftModel" 165 427071599731 ∈ lw_tbl := List.mem_of_getElem? (i := 1571) (by decide +kernel)
theorem d_215_62 : decode (mC 215) 62 = .ok (.lcmp, 1) := by decide +kernel
theorem d_215_63 : decode (mC 215) 63 = .ok (.ifCond .eq 135, 3) := by decide +kernel
theorem d_215_66 : decode (mC 215) 66 = .ok (.aload_n 0, 1) := by decide +kernel
theorem d_215_67 : decode (mC 215) 67 = .ok (.getfield 132, 3) := by decide +kernel
theorem d_215_70 : decode (mC 215) 70 = .ok (.ldc2_w 167, 3) := by decide +kernel
theorem cl_CordLoftModel_167 : Cond.constantLong "CordLoftModel" 167 1852143732 ∈ lw_tbl := List.mem_of_getElem? (i := 1572) (by decide +kernel)
theorem d_215_73 : decode (mC 215) 73 = .ok (.lcmp, 1) := by decide +kernel
theorem d_215_74 : decode (mC 215) 74 = .ok (.ifCond .eq 124, 3) := by decide +kernel
theorem d_215_77 : decode (mC 215) 77 = .ok (.aload_n 0, 1) := by decide +kernel
theorem d_215_78 : decode (mC 215) 78 = .ok (.getfield 132, 3) := by decide +kernel
theorem d_215_81 : decode (mC 215) 81 = .ok (.ldc2_w 169, 3) := by decide +kernel
theorem cl_CordLoftModel_169 : Cond.constantLong "CordLoftModel" 169 1685418859 ∈ lw_tbl := List.mem_of_getElem? (i := 1573) (by decide +kernel)
theorem d_215_84 : decode (mC 215) 84 = .ok (.lcmp, 1) := by decide +kernel
theorem d_215_85 : decode (mC 215) 85 = .ok (.ifCond .eq 113, 3) := by decide +kernel
theorem d_215_88 : decode (mC 215) 88 = .ok (.aload_n 0, 1) := by decide +kernel
theorem d_215_89 : decode (mC 215) 89 = .ok (.getfield 132, 3) := by decide +kernel
theorem d_215_92 : decode (mC 215) 92 = .ok (.ldc2_w 171, 3) := by decide +kernel
theorem cl_CordLoftModel_171 : Cond.constantLong "CordLoftModel" 171 465557353332 ∈ lw_tbl := List.mem_of_getElem? (i := 1574) (by decide +kernel)
theorem d_215_95 : decode (mC 215) 95 = .ok (.lcmp, 1) := by decide +kernel
theorem d_215_96 : decode (mC 215) 96 = .ok (.ifCond .eq 102, 3) := by decide +kernel
theorem d_215_99 : decode (mC 215) 99 = .ok (.aload_n 0, 1) := by decide +kernel
theorem d_215_100 : decode (mC 215) 100 = .ok (.getfield 132, 3) := by decide +kernel
theorem d_215_103 : decode (mC 215) 103 = .ok (.ldc2_w 173, 3) := by decide +kernel
theorem cl_CordLoftModel_173 : Cond.constantLong "CordLoftModel" 173 444352132211 ∈ lw_tbl := List.mem_of_getElem? (i := 1575) (by decide +kernel)
theorem d_215_106 : decode (mC 215) 106 = .ok (.lcmp, 1) := by decide +kernel
theorem d_215_107 : decode (mC 215) 107 = .ok (.ifCond .eq 91, 3) := by decide +kernel
theorem d_215_110 : decode (mC 215) 110 = .ok (.aload_n 0, 1) := by decide +kernel
theorem d_215_111 : decode (mC 215) 111 = .ok (.getfield 132, 3) := by decide +kernel
theorem d_215_114 : decode (mC 215) 114 = .ok (.ldc2_w 175, 3) := by decide +kernel
theorem cl_CordLoftModel_175 : Cond.constantLong "CordLoftModel" 175 1685217655 ∈ lw_tbl := List.mem_of_getElem? (i := 1576) (by decide +kernel)
theorem d_215_117 : decode (mC 215) 117 = .ok (.lcmp, 1) := by decide +kernel
theorem d_215_118 : decode (mC 215) 118 = .ok (.ifCond .eq 80, 3) := by decide +kernel
theorem d_215_121 : decode (mC 215) 121 = .ok (.aload_n 0, 1) := by decide +kernel
theorem d_215_122 : decode (mC 215) 122 = .ok (.getfield 132, 3) := by decide +kernel
theorem d_215_125 : decode (mC 215) 125 = .ok (.ldc2_w 177, 3) := by decide +kernel
theorem cl_CordLoftModel_177 : Cond.constantLong "CordLoftModel" 177 1852137842 ∈ lw_tbl := List.mem_of_getElem? (i := 1577) (by decide +kernel)
theorem d_215_128 : decode (mC 215) 128 = .ok (.lcmp, 1) := by decide +kernel
theorem d_215_129 : decode (mC 215) 129 = .ok (.ifCond .eq 69, 3) := by decide +kernel
theorem d_215_132 : decode (mC 215) 132 = .ok (.aload_n 0, 1) := by decide +kernel
theorem d_215_133 : decode (mC 215) 133 = .ok (.getfield 132, 3) := by decide +kernel
theorem d_215_136 : decode (mC 215) 136 = .ok (.ldc2_w 179, 3) := by decide +kernel
theorem cl_CordLoftModel_179 : Cond.constantLong "CordLoftModel" 179 427071530099 ∈ lw_tbl := List.mem_of_getElem? (i := 1578) (by decide +kernel)
theorem d_215_139 : decode (mC 215) 139 = .ok (.lcmp, 1) := by decide +kernel
theorem d_215_140 : decode (mC 215) 140 = .ok (.ifCond .eq 58, 3) := by decide +kernel
theorem d_215_143 : decode (mC 215) 143 = .ok (.aload_n 0, 1) := by decide +kernel
theorem d_215_144 : decode (mC 215) 144 = .ok (.getfield 132, 3) := by decide +kernel
theorem d_215_147 : decode (mC 215) 147 = .ok (.ldc2_w 181, 3) := by decide +kernel
theorem cl_CordLoftModel_181 : Cond.constantLong "CordLoftModel" 181 121450625394034 ∈ lw_tbl := List.mem_of_getElem? (i := 1579) (by decide +kernel)
theorem d_215_150 : decode (mC 215) 150 = .ok (.lcmp, 1) := by decide +kernel
theorem d_215_151 : decode (mC 215) 151 = .ok (.ifCond .eq 47, 3) := by decide +kernel
theorem d_215_154 : decode (mC 215) 154 = .ok (.aload_n 0, 1) := by decide +kernel
theorem d_215_155 : decode (mC 215) 155 = .ok (.getfield 132, 3) := by decide +kernel
theorem d_215_158 : decode (mC 215) 158 = .ok (.ldc2_w 183, 3) := by decide +kernel
theorem cl_CordLoftModel_183 : Cond.constantLong "CordLoftModel" 183 474214787188 ∈ lw_tbl := List.mem_of_getElem? (i := 1580) (by decide +kernel)
theorem d_215_161 : decode (mC 215) 161 = .ok (.lcmp, 1) := by decide +kernel
theorem d_215_162 : decode (mC 215) 162 = .ok (.ifCond .eq 36, 3) := by decide +kernel
theorem d_215_165 : decode (mC 215) 165 = .ok (.aload_n 0, 1) := by decide +kernel
theorem d_215_166 : decode (mC 215) 166 = .ok (.getfield 132, 3) := by decide +kernel
theorem d_215_169 : decode (mC 215) 169 = .ok (.ldc2_w 185, 3) := by decide +kernel
theorem cl_CordLoftModel_185 : Cond.constantLong "CordLoftModel" 185 6385252 ∈ lw_tbl := List.mem_of_getElem? (i := 1581) (by decide +kernel)
theorem d_215_172 : decode (mC 215) 172 = .ok (.lcmp, 1) := by decide +kernel
theorem d_215_173 : decode (mC 215) 173 = .ok (.ifCond .eq 25, 3) := by decide +kernel
theorem d_215_176 : decode (mC 215) 176 = .ok (.aload_n 0, 1) := by decide +kernel
theorem d_215_177 : decode (mC 215) 177 = .ok (.getfield 132, 3) := by decide +kernel
theorem d_215_180 : decode (mC 215) 180 = .ok (.ldc2_w 187, 3) := by decide +kernel
theorem cl_CordLoftModel_187 : Cond.constantLong "CordLoftModel" 187 28530 ∈ lw_tbl := List.mem_of_getElem? (i := 1582) (by decide +kernel)
theorem d_215_183 : decode (mC 215) 183 = .ok (.lcmp, 1) := by decide +kernel
theorem d_215_184 : decode (mC 215) 184 = .ok (.ifCond .eq 14, 3) := by decide +kernel
theorem d_215_187 : decode (mC 215) 187 = .ok (.aload_n 0, 1) := by decide +kernel
theorem d_215_188 : decode (mC 215) 188 = .ok (.getfield 132, 3) := by decide +kernel
theorem d_215_191 : decode (mC 215) 191 = .ok (.ldc2_w 189, 3) := by decide +kernel
theorem cl_CordLoftModel_189 : Cond.constantLong "CordLoftModel" 189 7237492 ∈ lw_tbl := List.mem_of_getElem? (i := 1583) (by decide +kernel)
theorem d_215_194 : decode (mC 215) 194 = .ok (.lcmp, 1) := by decide +kernel
theorem d_215_195 : decode (mC 215) 195 = .ok (.ifCond .ne 7, 3) := by decide +kernel
theorem d_215_202 : decode (mC 215) 202 = .ok (.iconst 0, 1) := by decide +kernel
theorem ml_215 : mL 215 = 1 := by decide +kernel
theorem d_214_0 : decode (mC 214) 0 = .ok (.aload_n 0, 1) := by decide +kernel
theorem d_214_1 : decode (mC 214) 1 = .ok (.getfield 139, 3) := by decide +kernel
theorem cn_214 : (mN 214).cls = "CordLoftModel" := by decide +kernel
theorem d_214_4 : decode (mC 214) 4 = .ok (.iconst 1, 1) := by decide +kernel
theorem d_214_5 : decode (mC 214) 5 = .ok (.if_icmp .ne 14, 3) := by decide +kernel
theorem d_214_19 : decode (mC 214) 19 = .ok (.iconst 0, 1) := by decide +kernel
theorem d_214_20 : decode (mC 214) 20 = .ok (.ireturn, 1) := by decide +kernel
theorem mr_214 : mR 214 = some .boolean := by decide +kernel
theorem d_214_8 : decode (mC 214) 8 = .ok (.aload_n 0, 1) := by decide +kernel
theorem d_214_9 : decode (mC 214) 9 = .ok (.invokevirtual 191, 3) := by decide +kernel
theorem mo_215 : MOK 215 := ⟨List.mem_of_getElem? (i := 1566) (by decide +kernel), by decide +kernel, ⟨by decide +kernel, by decide +kernel⟩, List.mem_of_getElem? (i := 100) (by decide +kernel), by decide +kernel⟩
theorem m0_215 : M0K 215 := ⟨by decide +kernel, by decide +kernel⟩
theorem vk_214_191 : VK 214 191 215 0 12 := ⟨⟨List.mem_of_getElem? (i := 1563) (by decide +kernel), by decide +kernel⟩, List.mem_of_getElem? (i := 1565) (by decide +kernel), mo_215, m0_215, _, rfl, List.mem_of_getElem? (i := 38) (by decide +kernel), by decide⟩
theorem d_214_12 : decode (mC 214) 12 = .ok (.ifCond .ne 7, 3) := by decide +kernel
theorem d_214_15 : decode (mC 214) 15 = .ok (.iconst 1, 1) := by decide +kernel
theorem d_214_16 : decode (mC 214) 16 = .ok (.goto 4, 3) := by decide +kernel
theorem ml_214 : mL 214 = 1 := by decide +kernel
theorem d_216_22 : decode (mC 216) 22 = .ok (.putfield 152, 3) := by decide +kernel
theorem fp_CordLoftModel_152 : FP 0 "CordLoftModel" 152 12 2 := ⟨⟨_, rfl, by decide, List.mem_of_getElem? (i := 1293) (by decide +kernel), rfl⟩, rfl, by decide, by decide +kernel⟩
theorem cn_216 : (mN 216).cls = "CordLoftModel" := by decide +kernel
theorem d_216_25 : decode (mC 216) 25 = .ok (.aload_n 0, 1) := by decide +kernel
theorem d_216_26 : decode (mC 216) 26 = .ok (.aload_n 0, 1) := by decide +kernel
theorem d_216_27 : decode (mC 216) 27 = .ok (.getfield 129, 3) := by decide +kernel
theorem fk_CordLoftModel_129 : FK 0 "CordLoftModel" 129 12 7 := ⟨⟨_, rfl, by decide, List.mem_of_getElem? (i := 1298) (by decide +kernel)⟩, rfl, by decide⟩
theorem d_216_30 : decode (mC 216) 30 = .ok (.putfield 13, 3) := by decide +kernel
theorem fp_CordLoftModel_13 : FP 0 "CordLoftModel" 13 12 3 := ⟨⟨_, rfl, by decide, List.mem_of_getElem? (i := 1294) (by decide +kernel), rfl⟩, rfl, by decide, by decide +kernel⟩
theorem d_216_33 : decode (mC 216) 33 = .ok (.return_, 1) := by decide +kernel
theorem mr_216 : mR 216 = none := by decide +kernel
theorem d_216_0 : decode (mC 216) 0 = .ok (.aload_n 0, 1) := by decide +kernel
theorem d_216_1 : decode (mC 216) 1 = .ok (.getfield 152, 3) := by decide +kernel
theorem fk_CordLoftModel_152 : FK 0 "CordLoftModel" 152 12 2 := ⟨⟨_, rfl, by decide, List.mem_of_getElem? (i := 1293) (by decide +kernel)⟩, rfl, by decide⟩
theorem d_216_4 : decode (mC 216) 4 = .ok (.ifCond .le 4, 3) := by decide +kernel
theorem d_216_8 : decode (mC 216) 8 = .ok (.aload_n 0, 1) := by decide +kernel
theorem d_216_9 : decode (mC 216) 9 = .ok (.aload_n 0, 1) := by decide +kernel
theorem d_216_10 : decode (mC 216) 10 = .ok (.getfield 139, 3) := by decide +kernel
theorem d_216_13 : decode (mC 216) 13 = .ok (.iconst 3, 1) := by decide +kernel
theorem d_216_14 : decode (mC 216) 14 = .ok (.if_icmp .ne 7, 3) := by decide +kernel
theorem d_216_21 : decode (mC 216) 21 = .ok (.iload_n 1, 1) := by decide +kernel
theorem d_216_17 : decode (mC 216) 17 = .ok (.iconst 1, 1) := by decide +kernel
theorem d_216_18 : decode (mC 216) 18 = .ok (.goto 4, 3) := by decide +kernel
theorem d_216_7 : decode (mC 216) 7 = .ok (.return_, 1) := by decide +kernel
theorem ml_216 : mL 216 = 2 := by decide +kernel
theorem d_217_5 : decode (mC 217) 5 = .ok (.iload 4, 2) := by decide +kernel
theorem d_217_7 : decode (mC 217) 7 = .ok (.iload_n 2, 1) := by decide +kernel
theorem d_217_8 : decode (mC 217) 8 = .ok (.if_icmp .ge 33, 3) := by decide +kernel
theorem d_217_11 : decode (mC 217) 11 = .ok (.aload_n 0, 1) := by decide +kernel
theorem d_217_12 : decode (mC 217) 12 = .ok (.getfield 17, 3) := by decide +kernel
theorem fk_CordLoftModel_17 : FK 2 "CordLoftModel" 17 12 10 := ⟨⟨_, rfl, by decide, List.mem_of_getElem? (i := 1301) (by decide +kernel)⟩, rfl, by decide⟩
theorem cn_217 : (mN 217).cls = "CordLoftModel" := by decide +kernel
theorem ft_13_10 : finT 13 10 = some (107, 0) := by decide +kernel
theorem k_107 : kd0 107 = 21 := by decide +kernel
theorem l_107 : ln0 107 = 16 := by decide +kernel
theorem d_217_15 : decode (mC 217) 15 = .ok (.iload_n 1, 1) := by decide +kernel
theorem d_217_16 : decode (mC 217) 16 = .ok (.iload 4, 2) := by decide +kernel
theorem d_217_18 : decode (mC 217) 18 = .ok (.iadd, 1) := by decide +kernel
theorem d_217_19 : decode (mC 217) 19 = .ok (.laload, 1) := by decide +kernel
theorem d_217_20 : decode (mC 217) 20 = .ok (.aload_n 0, 1) := by decide +kernel
theorem d_217_21 : decode (mC 217) 21 = .ok (.getfield 132, 3) := by decide +kernel
theorem d_217_24 : decode (mC 217) 24 = .ok (.lcmp, 1) := by decide +kernel
theorem d_217_25 : decode (mC 217) 25 = .ok (.ifCond .ne 8, 3) := by decide +kernel
theorem d_217_33 : decode (mC 217) 33 = .ok (.iload_n 3, 1) := by decide +kernel
theorem d_217_34 : decode (mC 217) 34 = .ok (.istore_n 3, 1) := by decide +kernel
theorem ml_217 : mL 217 = 5 := by decide +kernel
theorem d_217_35 : decode (mC 217) 35 = .ok (.iinc 4 1, 3) := by decide +kernel
theorem d_217_38 : decode (mC 217) 38 = .ok (.goto (-33), 3) := by decide +kernel
theorem d_217_28 : decode (mC 217) 28 = .ok (.iload 4, 2) := by decide +kernel
theorem d_217_30 : decode (mC 217) 30 = .ok (.goto 4, 3) := by decide +kernel
theorem d_217_0 : decode (mC 217) 0 = .ok (.iconst (-1), 1) := by decide +kernel
theorem d_217_1 : decode (mC 217) 1 = .ok (.istore_n 3, 1) := by decide +kernel
theorem d_217_2 : decode (mC 217) 2 = .ok (.iconst 0, 1) := by decide +kernel
theorem d_217_3 : decode (mC 217) 3 = .ok (.istore 4, 2) := by decide +kernel
theorem d_217_41 : decode (mC 217) 41 = .ok (.iload_n 3, 1) := by decide +kernel
theorem d_217_42 : decode (mC 217) 42 = .ok (.ireturn, 1) := by decide +kernel
theorem mr_217 : mR 217 = some .int := by decide +kernel
theorem d_213_33 : decode (mC 213) 33 = .ok (.aload_n 0, 1) := by decide +kernel
theorem d_213_34 : decode (mC 213) 34 = .ok (.getfield 152, 3) := by decide +kernel
theorem cn_213 : (mN 213).cls = "CordLoftModel" := by decide +kernel
theorem d_213_37 : decode (mC 213) 37 = .ok (.ifCond .le 4, 3) := by decide +kernel
theorem d_213_41 : decode (mC 213) 41 = .ok (.aload_n 0, 1) := by decide +kernel
theorem d_213_42 : decode (mC 213) 42 = .ok (.getfield 17, 3) := by decide +kernel
theorem d_213_45 : decode (mC 213) 45 = .ok (.iload_n 1, 1) := by decide +kernel
theorem d_213_46 : decode (mC 213) 46 = .ok (.iload_n 2, 1) := by decide +kernel
theorem d_213_47 : decode (mC 213) 47 = .ok (.iadd, 1) := by decide +kernel
theorem d_213_48 : decode (mC 213) 48 = .ok (.aload_n 0, 1) := by decide +kernel
theorem d_213_49 : decode (mC 213) 49 = .ok (.getfield 132, 3) := by decide +kernel
theorem d_213_52 : decode (mC 213) 52 = .ok (.lastore, 1) := by decide +kernel
theorem d_213_53 : decode (mC 213) 53 = .ok (.aload_n 0, 1) := by decide +kernel
theorem d_213_54 : decode (mC 213) 54 = .ok (.invokevirtual 202, 3) := by decide +kernel
theorem mo_205 : MOK 205 := ⟨List.mem_of_getElem? (i := 1528) (by decide +kernel), by decide +kernel, ⟨by decide +kernel, by decide +kernel⟩, List.mem_of_getElem? (i := 100) (by decide +kernel), by decide +kernel⟩
theorem m0_205 : M0K 205 := ⟨by decide +kernel, by decide +kernel⟩
theorem vk_213_202 : VK 213 202 205 0 12 := ⟨⟨List.mem_of_getElem? (i := 1525) (by decide +kernel), by decide +kernel⟩, List.mem_of_getElem? (i := 1527) (by decide +kernel), mo_205, m0_205, _, rfl, List.mem_of_getElem? (i := 31) (by decide +kernel), by decide⟩
theorem d_213_57 : decode (mC 213) 57 = .ok (.return_, 1) := by decide +kernel
theorem mr_213 : mR 213 = none := by decide +kernel
theorem d_213_40 : decode (mC 213) 40 = .ok (.return_, 1) := by decide +kernel
theorem d_213_0 : decode (mC 213) 0 = .ok (.aload_n 0, 1) := by decide +kernel
theorem d_213_1 : decode (mC 213) 1 = .ok (.invokevirtual 202, 3) := by decide +kernel
theorem d_213_4 : decode (mC 213) 4 = .ok (.aload_n 0, 1) := by decide +kernel
theorem d_213_5 : decode (mC 213) 5 = .ok (.invokevirtual 217, 3) := by decide +kernel
theorem mo_214 : MOK 214 := ⟨List.mem_of_getElem? (i := 1562) (by decide +kernel), by decide +kernel, ⟨by decide +kernel, by decide +kernel⟩, List.mem_of_getElem? (i := 100) (by decide +kernel), by decide +kernel⟩
theorem m0_214 : M0K 214 := ⟨by decide +kernel, by decide +kernel⟩
theorem vk_213_217 : VK 213 217 214 0 12 := ⟨⟨List.mem_of_getElem? (i := 1559) (by decide +kernel), by decide +kernel⟩, List.mem_of_getElem? (i := 1561) (by decide +kernel), mo_214, m0_214, _, rfl, List.mem_of_getElem? (i := 37) (by decide +kernel), by decide⟩
theorem d_213_8 : decode (mC 213) 8 = .ok (.ifCond .ne 11, 3) := by decide +kernel
theorem d_213_19 : decode (mC 213) 19 = .ok (.aload_n 0, 1) := by decide +kernel
theorem d_213_20 : decode (mC 213) 20 = .ok (.iload_n 1, 1) := by decide +kernel
theorem d_213_21 : decode (mC 213) 21 = .ok (.iload_n 2, 1) := by decide +kernel
theorem d_213_22 : decode (mC 213) 22 = .ok (.invokevirtual 220, 3) := by decide +kernel
theorem mo_217 : MOK 217 := ⟨List.mem_of_getElem? (i := 1591) (by decide +kernel), by decide +kernel, ⟨by decide +kernel, by decide +kernel⟩, List.mem_of_getElem? (i := 100) (by decide +kernel), by decide +kernel⟩
theorem m0_217 : M0K 217 := ⟨by decide +kernel, by decide +kernel⟩
theorem vk_213_220 : VK 213 220 217 2 12 := ⟨⟨List.mem_of_getElem? (i := 1588) (by decide +kernel), by decide +kernel⟩, List.mem_of_getElem? (i := 1590) (by decide +kernel), mo_217, m0_217, _, rfl, List.mem_of_getElem? (i := 40) (by decide +kernel), by decide⟩
theorem d_213_25 : decode (mC 213) 25 = .ok (.ifCond .lt 8, 3) := by decide +kernel
theorem d_213_28 : decode (mC 213) 28 = .ok (.aload_n 0, 1) := by decide +kernel
theorem d_213_29 : decode (mC 213) 29 = .ok (.iconst 3, 1) := by decide +kernel
theorem d_213_30 : decode (mC 213) 30 = .ok (.invokevirtual 199, 3) := by decide +kernel
theorem mo_216 : MOK 216 := ⟨List.mem_of_getElem? (i := 1587) (by decide +kernel), by decide +kernel, ⟨by decide +kernel, by decide +kernel⟩, List.mem_of_getElem? (i := 100) (by decide +kernel), by decide +kernel⟩
theorem m0_216 : M0K 216 := ⟨by decide +kernel, by decide +kernel⟩
theorem vk_213_199 : VK 213 199 216 1 12 := ⟨⟨List.mem_of_getElem? (i := 1584) (by decide +kernel), by decide +kernel⟩, List.mem_of_getElem? (i := 1586) (by decide +kernel), mo_216, m0_216, _, rfl, List.mem_of_getElem? (i := 39) (by decide +kernel), by decide⟩
theorem d_213_11 : decode (mC 213) 11 = .ok (.aload_n 0, 1) := by decide +kernel
theorem d_213_12 : decode (mC 213) 12 = .ok (.iconst 2, 1) := by decide +kernel
theorem d_213_13 : decode (mC 213) 13 = .ok (.invokevirtual 199, 3) := by decide +kernel
theorem d_213_16 : decode (mC 213) 16 = .ok (.goto 17, 3) := by decide +kernel
theorem ml_213 : mL 213 = 3 := by decide +kernel
theorem d_220_0 : decode (mC 220) 0 = .ok (.aload_n 0, 1) := by decide +kernel
theorem d_220_1 : decode (mC 220) 1 = .ok (.getfield 152, 3) := by decide +kernel
theorem cn_220 : (mN 220).cls = "CordLoftModel" := by decide +kernel
theorem d_220_4 : decode (mC 220) 4 = .ok (.ifCond .le 4, 3) := by decide +kernel
theorem d_220_8 : decode (mC 220) 8 = .ok (.aload_n 0, 1) := by decide +kernel
theorem d_220_9 : decode (mC 220) 9 = .ok (.lload_n 1, 1) := by decide +kernel
theorem d_220_10 : decode (mC 220) 10 = .ok (.invokevirtual 195, 3) := by decide +kernel
theorem mo_211 : MOK 211 := ⟨List.mem_of_getElem? (i := 1550) (by decide +kernel), by decide +kernel, ⟨by decide +kernel, by decide +kernel⟩, List.mem_of_getElem? (i := 100) (by decide +kernel), by decide +kernel⟩
theorem m0_211 : M0K 211 := ⟨by decide +kernel, by decide +kernel⟩
theorem vk_220_195 : VK 220 195 211 1 12 := ⟨⟨List.mem_of_getElem? (i := 1547) (by decide +kernel), by decide +kernel⟩, List.mem_of_getElem? (i := 1549) (by decide +kernel), mo_211, m0_211, _, rfl, List.mem_of_getElem? (i := 34) (by decide +kernel), by decide⟩
theorem d_220_13 : decode (mC 220) 13 = .ok (.ifCond .ne 11, 3) := by decide +kernel
theorem d_220_24 : decode (mC 220) 24 = .ok (.aload_n 0, 1) := by decide +kernel
theorem d_220_25 : decode (mC 220) 25 = .ok (.invokevirtual 202, 3) := by decide +kernel
theorem vk_220_202 : VK 220 202 205 0 12 := ⟨⟨List.mem_of_getElem? (i := 1525) (by decide +kernel), by decide +kernel⟩, List.mem_of_getElem? (i := 1527) (by decide +kernel), mo_205, m0_205, _, rfl, List.mem_of_getElem? (i := 31) (by decide +kernel), by decide⟩
theorem d_220_28 : decode (mC 220) 28 = .ok (.return_, 1) := by decide +kernel
theorem mr_220 : mR 220 = none := by decide +kernel
theorem d_220_16 : decode (mC 220) 16 = .ok (.aload_n 0, 1) := by decide +kernel
theorem d_220_17 : decode (mC 220) 17 = .ok (.iconst 2, 1) := by decide +kernel
theorem d_220_18 : decode (mC 220) 18 = .ok (.invokevirtual 199, 3) := by decide +kernel
theorem vk_220_199 : VK 220 199 216 1 12 := ⟨⟨List.mem_of_getElem? (i := 1584) (by decide +kernel), by decide +kernel⟩, List.mem_of_getElem? (i := 1586) (by decide +kernel), mo_216, m0_216, _, rfl, List.mem_of_getElem? (i := 39) (by decide +kernel), by decide⟩
theorem d_220_21 : decode (mC 220) 21 = .ok (.goto 7, 3) := by decide +kernel
theorem d_220_7 : decode (mC 220) 7 = .ok (.return_, 1) := by decide +kernel
theorem ml_220 : mL 220 = 3 := by decide +kernel
theorem d_221_46 : decode (mC 221) 46 = .ok (.aload_n 0, 1) := by decide +kernel
theorem d_221_47 : decode (mC 221) 47 = .ok (.getfield 136, 3) := by decide +kernel
theorem cn_221 : (mN 221).cls = "CordLoftModel" := by decide +kernel
theorem d_221_50 : decode (mC 221) 50 = .ok (.istore_n 3, 1) := by decide +kernel
theorem ml_221 : mL 221 = 4 := by decide +kernel
theorem d_221_51 : decode (mC 221) 51 = .ok (.aload_n 0, 1) := by decide +kernel
theorem d_221_52 : decode (mC 221) 52 = .ok (.getfield 152, 3) := by decide +kernel
theorem d_221_55 : decode (mC 221) 55 = .ok (.ifCond .ne 7, 3) := by decide +kernel
theorem d_221_62 : decode (mC 221) 62 = .ok (.iload_n 3, 1) := by decide +kernel
theorem d_221_63 : decode (mC 221) 63 = .ok (.ireturn, 1) := by decide +kernel
theorem mr_221 : mR 221 = some .int := by decide +kernel
theorem d_221_58 : decode (mC 221) 58 = .ok (.aload_n 0, 1) := by decide +kernel
theorem d_221_59 : decode (mC 221) 59 = .ok (.invokevirtual 202, 3) := by decide +kernel
theorem vk_221_202 : VK 221 202 205 0 12 := ⟨⟨List.mem_of_getElem? (i := 1525) (by decide +kernel), by decide +kernel⟩, List.mem_of_getElem? (i := 1527) (by decide +kernel), mo_205, m0_205, _, rfl, List.mem_of_getElem? (i := 31) (by decide +kernel), by decide⟩
theorem d_221_41 : decode (mC 221) 41 = .ok (.aload_n 0, 1) := by decide +kernel
theorem d_221_42 : decode (mC 221) 42 = .ok (.iconst 4, 1) := by decide +kernel
theorem d_221_43 : decode (mC 221) 43 = .ok (.invokevirtual 199, 3) := by decide +kernel
theorem vk_221_199 : VK 221 199 216 1 12 := ⟨⟨List.mem_of_getElem? (i := 1584) (by decide +kernel), by decide +kernel⟩, List.mem_of_getElem? (i := 1586) (by decide +kernel), mo_216, m0_216, _, rfl, List.mem_of_getElem? (i := 39) (by decide +kernel), by decide⟩
theorem d_221_0 : decode (mC 221) 0 = .ok (.aload_n 0, 1) := by decide +kernel
theorem d_221_1 : decode (mC 221) 1 = .ok (.getfield 152, 3) := by decide +kernel
theorem d_221_4 : decode (mC 221) 4 = .ok (.ifCond .le 5, 3) := by decide +kernel
theorem d_221_9 : decode (mC 221) 9 = .ok (.aload_n 0, 1) := by decide +kernel
theorem d_221_10 : decode (mC 221) 10 = .ok (.getfield 139, 3) := by decide +kernel
theorem d_221_13 : decode (mC 221) 13 = .ok (.iconst 2, 1) := by decide +kernel
theorem d_221_14 : decode (mC 221) 14 = .ok (.if_icmp .eq 11, 3) := by decide +kernel
theorem d_221_25 : decode (mC 221) 25 = .ok (.aload_n 0, 1) := by decide +kernel
theorem d_221_26 : decode (mC 221) 26 = .ok (.getfield 136, 3) := by decide +kernel
theorem d_221_29 : decode (mC 221) 29 = .ok (.iload_n 1, 1) := by decide +kernel
theorem d_221_30 : decode (mC 221) 30 = .ok (.if_icmp .lt 11, 3) := by decide +kernel
theorem d_221_33 : decode (mC 221) 33 = .ok (.aload_n 0, 1) := by decide +kernel
theorem d_221_34 : decode (mC 221) 34 = .ok (.getfield 136, 3) := by decide +kernel
theorem d_221_37 : decode (mC 221) 37 = .ok (.iload_n 2, 1) := by decide +kernel
theorem d_221_38 : decode (mC 221) 38 = .ok (.if_icmp .le 8, 3) := by decide +kernel
theorem d_221_17 : decode (mC 221) 17 = .ok (.aload_n 0, 1) := by decide +kernel
theorem d_221_18 : decode (mC 221) 18 = .ok (.iconst 2, 1) := by decide +kernel
theorem d_221_19 : decode (mC 221) 19 = .ok (.invokevirtual 199, 3) := by decide +kernel
theorem d_221_22 : decode (mC 221) 22 = .ok (.goto 24, 3) := by decide +kernel
theorem d_221_7 : decode (mC 221) 7 = .ok (.iconst 0, 1) := by decide +kernel
theorem d_221_8 : decode (mC 221) 8 = .ok (.ireturn, 1) := by decide +kernel
theorem d_219_0 : decode (mC 219) 0 = .ok (.aload_n 0, 1) := by decide +kernel
theorem d_219_1 : decode (mC 219) 1 = .ok (.lload_n 1, 1) := by decide +kernel
theorem d_219_2 : decode (mC 219) 2 = .ok (.invokevirtual 205, 3) := by decide +kernel
theorem mo_220 : MOK 220 := ⟨List.mem_of_getElem? (i := 1603) (by decide +kernel), by decide +kernel, ⟨by decide +kernel, by decide +kernel⟩, List.mem_of_getElem? (i := 100) (by decide +kernel), by decide +kernel⟩
theorem m0_220 : M0K 220 := ⟨by decide +kernel, by decide +kernel⟩
theorem vk_219_205 : VK 219 205 220 1 12 := ⟨⟨List.mem_of_getElem? (i := 1600) (by decide +kernel), by decide +kernel⟩, List.mem_of_getElem? (i := 1602) (by decide +kernel), mo_220, m0_220, _, rfl, List.mem_of_getElem? (i := 43) (by decide +kernel), by decide⟩
theorem d_219_5 : decode (mC 219) 5 = .ok (.aload_n 0, 1) := by decide +kernel
theorem d_219_6 : decode (mC 219) 6 = .ok (.iload_n 3, 1) := by decide +kernel
theorem d_219_7 : decode (mC 219) 7 = .ok (.iload 4, 2) := by decide +kernel
theorem d_219_9 : decode (mC 219) 9 = .ok (.invokevirtual 209, 3) := by decide +kernel
theorem mo_221 : MOK 221 := ⟨List.mem_of_getElem? (i := 1607) (by decide +kernel), by decide +kernel, ⟨by decide +kernel, by decide +kernel⟩, List.mem_of_getElem? (i := 100) (by decide +kernel), by decide +kernel⟩
theorem m0_221 : M0K 221 := ⟨by decide +kernel, by decide +kernel⟩
theorem vk_219_209 : VK 219 209 221 2 12 := ⟨⟨List.mem_of_getElem? (i := 1604) (by decide +kernel), by decide +kernel⟩, List.mem_of_getElem? (i := 1606) (by decide +kernel), mo_221, m0_221, _, rfl, List.mem_of_getElem? (i := 44) (by decide +kernel), by decide⟩
theorem d_219_12 : decode (mC 219) 12 = .ok (.ireturn, 1) := by decide +kernel
theorem mr_219 : mR 219 = some .int := by decide +kernel
theorem ml_219 : mL 219 = 5 := by decide +kernel
theorem d_218_0 : decode (mC 218) 0 = .ok (.aload_n 0, 1) := by decide +kernel
theorem d_218_1 : decode (mC 218) 1 = .ok (.getfield 152, 3) := by decide +kernel
theorem cn_218 : (mN 218).cls = "CordLoftModel" := by decide +kernel
theorem d_218_4 : decode (mC 218) 4 = .ok (.ifCond .ne 21, 3) := by decide +kernel
theorem d_218_25 : decode (mC 218) 25 = .ok (.iconst 1, 1) := by decide +kernel
theorem d_218_26 : decode (mC 218) 26 = .ok (.ireturn, 1) := by decide +kernel
theorem mr_218 : mR 218 = some .int := by decide +kernel
theorem d_218_7 : decode (mC 218) 7 = .ok (.aload_n 0, 1) := by decide +kernel
theorem d_218_8 : decode (mC 218) 8 = .ok (.lload_n 1, 1) := by decide +kernel
theorem d_218_9 : decode (mC 218) 9 = .ok (.invokevirtual 195, 3) := by decide +kernel
theorem vk_218_195 : VK 218 195 211 1 12 := ⟨⟨List.mem_of_getElem? (i := 1547) (by decide +kernel), by decide +kernel⟩, List.mem_of_getElem? (i := 1549) (by decide +kernel), mo_211, m0_211, _, rfl, List.mem_of_getElem? (i := 34) (by decide +kernel), by decide⟩
theorem d_218_12 : decode (mC 218) 12 = .ok (.ifCond .eq 13, 3) := by decide +kernel
theorem d_218_15 : decode (mC 218) 15 = .ok (.aload_n 0, 1) := by decide +kernel
theorem d_218_16 : decode (mC 218) 16 = .ok (.lload_n 1, 1) := by decide +kernel
theorem d_218_17 : decode (mC 218) 17 = .ok (.iconst 0, 1) := by decide +kernel
theorem d_218_18 : decode (mC 218) 18 = .ok (.iload_n 3, 1) := by decide +kernel
theorem d_218_19 : decode (mC 218) 19 = .ok (.invokevirtual 213, 3) := by decide +kernel
theorem mo_219 : MOK 219 := ⟨List.mem_of_getElem? (i := 1599) (by decide +kernel), by decide +kernel, ⟨by decide +kernel, by decide +kernel⟩, List.mem_of_getElem? (i := 100) (by decide +kernel), by decide +kernel⟩
theorem m0_219 : M0K 219 := ⟨by decide +kernel, by decide +kernel⟩
theorem vk_218_213 : VK 218 213 219 3 12 := ⟨⟨List.mem_of_getElem? (i := 1596) (by decide +kernel), by decide +kernel⟩, List.mem_of_getElem? (i := 1598) (by decide +kernel), mo_219, m0_219, _, rfl, List.mem_of_getElem? (i := 42) (by decide +kernel), by decide⟩
theorem d_218_22 : decode (mC 218) 22 = .ok (.goto 4, 3) := by decide +kernel
theorem ml_218 : mL 218 = 4 := by decide +kernel
theorem d_212_46 : decode (mC 212) 46 = .ok (.aload_n 0, 1) := by decide +kernel
theorem d_212_47 : decode (mC 212) 47 = .ok (.getfield 42, 3) := by decide +kernel
theorem fk_CordLoftModel_42 : FK 2 "CordLoftModel" 42 12 27 := ⟨⟨_, rfl, by decide, List.mem_of_getElem? (i := 1318) (by decide +kernel)⟩, rfl, by decide⟩
theorem cn_212 : (mN 212).cls = "CordLoftModel" := by decide +kernel
theorem ft_13_27 : finT 13 27 = some (115, 0) := by decide +kernel
theorem k_115 : kd0 115 = 20 := by decide +kernel
theorem l_115 : ln0 115 = 8 := by decide +kernel
theorem d_212_50 : decode (mC 212) 50 = .ok (.aload_n 0, 1) := by decide +kernel
theorem d_212_51 : decode (mC 212) 51 = .ok (.getfield 223, 3) := by decide +kernel
theorem fk_CordLoftModel_223 : FK 0 "CordLoftModel" 223 12 35 := ⟨⟨_, rfl, by decide, List.mem_of_getElem? (i := 1326) (by decide +kernel)⟩, rfl, by decide⟩
theorem d_212_54 : decode (mC 212) 54 = .ok (.aload_n 0, 1) := by decide +kernel
theorem d_212_55 : decode (mC 212) 55 = .ok (.ldc2_w 159, 3) := by decide +kernel
theorem d_212_58 : decode (mC 212) 58 = .ok (.bipush 99, 2) := by decide +kernel
theorem d_212_60 : decode (mC 212) 60 = .ok (.invokevirtual 316, 3) := by decide +kernel
theorem mo_218 : MOK 218 := ⟨List.mem_of_getElem? (i := 1595) (by decide +kernel), by decide +kernel, ⟨by decide +kernel, by decide +kernel⟩, List.mem_of_getElem? (i := 100) (by decide +kernel), by decide +kernel⟩
theorem m0_218 : M0K 218 := ⟨by decide +kernel, by decide +kernel⟩
theorem vk_212_316 : VK 212 316 218 2 12 := ⟨⟨List.mem_of_getElem? (i := 1592) (by decide +kernel), by decide +kernel⟩, List.mem_of_getElem? (i := 1594) (by decide +kernel), mo_218, m0_218, _, rfl, List.mem_of_getElem? (i := 41) (by decide +kernel), by decide⟩
theorem d_212_63 : decode (mC 212) 63 = .ok (.iastore, 1) := by decide +kernel
theorem d_212_64 : decode (mC 212) 64 = .ok (.aload_n 0, 1) := by decide +kernel
theorem d_212_65 : decode (mC 212) 65 = .ok (.getfield 45, 3) := by decide +kernel
theorem fk_CordLoftModel_45 : FK 2 "CordLoftModel" 45 12 28 := ⟨⟨_, rfl, by decide, List.mem_of_getElem? (i := 1319) (by decide +kernel)⟩, rfl, by decide⟩
theorem ft_13_28 : finT 13 28 = some (116, 0) := by decide +kernel
theorem k_116 : kd0 116 = 20 := by decide +kernel
theorem l_116 : ln0 116 = 8 := by decide +kernel
theorem d_212_68 : decode (mC 212) 68 = .ok (.aload_n 0, 1) := by decide +kernel
theorem d_212_69 : decode (mC 212) 69 = .ok (.getfield 223, 3) := by decide +kernel
theorem d_212_72 : decode (mC 212) 72 = .ok (.iconst 0, 1) := by decide +kernel
theorem d_212_73 : decode (mC 212) 73 = .ok (.iastore, 1) := by decide +kernel
theorem d_212_74 : decode (mC 212) 74 = .ok (.aload_n 0, 1) := by decide +kernel
theorem d_212_75 : decode (mC 212) 75 = .ok (.getfield 152, 3) := by decide +kernel
theorem d_212_78 : decode (mC 212) 78 = .ok (.ifCond .ne 13, 3) := by decide +kernel
theorem d_212_91 : decode (mC 212) 91 = .ok (.return_, 1) := by decide +kernel
theorem mr_212 : mR 212 = none := by decide +kernel
theorem d_212_81 : decode (mC 212) 81 = .ok (.aload_n 0, 1) := by decide +kernel
theorem d_212_82 : decode (mC 212) 82 = .ok (.dup, 1) := by decide +kernel
theorem d_212_83 : decode (mC 212) 83 = .ok (.getfield 223, 3) := by decide +kernel
theorem d_212_86 : decode (mC 212) 86 = .ok (.iconst 1, 1) := by decide +kernel
theorem d_212_87 : decode (mC 212) 87 = .ok (.iadd, 1) := by decide +kernel
theorem d_212_88 : decode (mC 212) 88 = .ok (.putfield 223, 3) := by decide +kernel
theorem fp_CordLoftModel_223 : FP 0 "CordLoftModel" 223 12 35 := ⟨⟨_, rfl, by decide, List.mem_of_getElem? (i := 1326) (by decide +kernel), rfl⟩, rfl, by decide, by decide +kernel⟩
theorem d_212_0 : decode (mC 212) 0 = .ok (.aload_n 0, 1) := by decide +kernel
theorem d_212_1 : decode (mC 212) 1 = .ok (.iconst 0, 1) := by decide +kernel
theorem d_212_2 : decode (mC 212) 2 = .ok (.aload_n 0, 1) := by decide +kernel
theorem d_212_3 : decode (mC 212) 3 = .ok (.getfield 223, 3) := by decide +kernel
theorem d_212_6 : decode (mC 212) 6 = .ok (.invokevirtual 310, 3) := by decide +kernel
theorem mo_213 : MOK 213 := ⟨List.mem_of_getElem? (i := 1558) (by decide +kernel), by decide +kernel, ⟨by decide +kernel, by decide +kernel⟩, List.mem_of_getElem? (i := 100) (by decide +kernel), by decide +kernel⟩
theorem m0_213 : M0K 213 := ⟨by decide +kernel, by decide +kernel⟩
theorem vk_212_310 : VK 212 310 213 2 12 := ⟨⟨List.mem_of_getElem? (i := 1555) (by decide +kernel), by decide +kernel⟩, List.mem_of_getElem? (i := 1557) (by decide +kernel), mo_213, m0_213, _, rfl, List.mem_of_getElem? (i := 36) (by decide +kernel), by decide⟩
theorem d_212_9 : decode (mC 212) 9 = .ok (.aload_n 0, 1) := by decide +kernel
theorem d_212_10 : decode (mC 212) 10 = .ok (.getfield 152, 3) := by decide +kernel
theorem d_212_13 : decode (mC 212) 13 = .ok (.ifCond .le 4, 3) := by decide +kernel
theorem d_212_17 : decode (mC 212) 17 = .ok (.aload_n 0, 1) := by decide +kernel
theorem d_212_18 : decode (mC 212) 18 = .ok (.ldc2_w 157, 3) := by decide +kernel
theorem d_212_21 : decode (mC 212) 21 = .ok (.invokevirtual 195, 3) := by decide +kernel
theorem vk_212_195 : VK 212 195 211 1 12 := ⟨⟨List.mem_of_getElem? (i := 1547) (by decide +kernel), by decide +kernel⟩, List.mem_of_getElem? (i := 1549) (by decide +kernel), mo_211, m0_211, _, rfl, List.mem_of_getElem? (i := 34) (by decide +kernel), by decide⟩
theorem d_212_24 : decode (mC 212) 24 = .ok (.ifCond .eq 22, 3) := by decide +kernel
theorem d_212_27 : decode (mC 212) 27 = .ok (.aload_n 0, 1) := by decide +kernel
theorem d_212_28 : decode (mC 212) 28 = .ok (.dup, 1) := by decide +kernel
theorem d_212_29 : decode (mC 212) 29 = .ok (.getfield 313, 3) := by decide +kernel
theorem fk_CordLoftModel_313 : FK 0 "CordLoftModel" 313 12 37 := ⟨⟨_, rfl, by decide, List.mem_of_getElem? (i := 1328) (by decide +kernel)⟩, rfl, by decide⟩
theorem d_212_32 : decode (mC 212) 32 = .ok (.iconst 1, 1) := by decide +kernel
theorem d_212_33 : decode (mC 212) 33 = .ok (.aload_n 0, 1) := by decide +kernel
theorem d_212_34 : decode (mC 212) 34 = .ok (.getfield 223, 3) := by decide +kernel
theorem d_212_37 : decode (mC 212) 37 = .ok (.ishl, 1) := by decide +kernel
theorem d_212_38 : decode (mC 212) 38 = .ok (.ior, 1) := by decide +kernel
theorem d_212_39 : decode (mC 212) 39 = .ok (.putfield 313, 3) := by decide +kernel
theorem fp_CordLoftModel_313 : FP 0 "CordLoftModel" 313 12 37 := ⟨⟨_, rfl, by decide, List.mem_of_getElem? (i := 1328) (by decide +kernel), rfl⟩, rfl, by decide, by decide +kernel⟩
theorem d_212_42 : decode (mC 212) 42 = .ok (.aload_n 0, 1) := by decide +kernel
theorem d_212_43 : decode (mC 212) 43 = .ok (.invokevirtual 202, 3) := by decide +kernel
theorem vk_212_202 : VK 212 202 205 0 12 := ⟨⟨List.mem_of_getElem? (i := 1525) (by decide +kernel), by decide +kernel⟩, List.mem_of_getElem? (i := 1527) (by decide +kernel), mo_205, m0_205, _, rfl, List.mem_of_getElem? (i := 31) (by decide +kernel), by decide⟩
theorem d_212_16 : decode (mC 212) 16 = .ok (.return_, 1) := by decide +kernel
theorem ml_212 : mL 212 = 1 := by decide +kernel
theorem d_224_41 : decode (mC 224) 41 = .ok (.aload_n 0, 1) := by decide +kernel
theorem d_224_42 : decode (mC 224) 42 = .ok (.getfield 152, 3) := by decide +kernel
theorem cn_224 : (mN 224).cls = "CordLoftModel" := by decide +kernel
theorem d_224_45 : decode (mC 224) 45 = .ok (.ifCond .le 7, 3) := by decide +kernel
theorem d_224_52 : decode (mC 224) 52 = .ok (.aload_n 0, 1) := by decide +kernel
theorem d_224_53 : decode (mC 224) 53 = .ok (.iconst 0, 1) := by decide +kernel
theorem d_224_54 : decode (mC 224) 54 = .ok (.aload_n 0, 1) := by decide +kernel
theorem d_224_55 : decode (mC 224) 55 = .ok (.getfield 223, 3) := by decide +kernel
theorem d_224_58 : decode (mC 224) 58 = .ok (.invokevirtual 220, 3) := by decide +kernel
theorem vk_224_220 : VK 224 220 217 2 12 := ⟨⟨List.mem_of_getElem? (i := 1588) (by decide +kernel), by decide +kernel⟩, List.mem_of_getElem? (i := 1590) (by decide +kernel), mo_217, m0_217, _, rfl, List.mem_of_getElem? (i := 40) (by decide +kernel), by decide⟩
theorem d_224_61 : decode (mC 224) 61 = .ok (.ireturn, 1) := by decide +kernel
theorem mr_224 : mR 224 = some .int := by decide +kernel
theorem d_224_48 : decode (mC 224) 48 = .ok (.iconst 0, 1) := by decide +kernel
theorem d_224_49 : decode (mC 224) 49 = .ok (.goto 12, 3) := by decide +kernel
theorem d_224_0 : decode (mC 224) 0 = .ok (.aload_n 0, 1) := by decide +kernel
theorem d_224_1 : decode (mC 224) 1 = .ok (.getfield 152, 3) := by decide +kernel
theorem d_224_4 : decode (mC 224) 4 = .ok (.ifCond .le 5, 3) := by decide +kernel
theorem d_224_9 : decode (mC 224) 9 = .ok (.aload_n 0, 1) := by decide +kernel
theorem d_224_10 : decode (mC 224) 10 = .ok (.invokevirtual 217, 3) := by decide +kernel
theorem vk_224_217 : VK 224 217 214 0 12 := ⟨⟨List.mem_of_getElem? (i := 1559) (by decide +kernel), by decide +kernel⟩, List.mem_of_getElem? (i := 1561) (by decide +kernel), mo_214, m0_214, _, rfl, List.mem_of_getElem? (i := 37) (by decide +kernel), by decide⟩
theorem d_224_13 : decode (mC 224) 13 = .ok (.ifCond .ne 11, 3) := by decide +kernel
theorem d_224_24 : decode (mC 224) 24 = .ok (.aload_n 0, 1) := by decide +kernel
theorem d_224_25 : decode (mC 224) 25 = .ok (.iconst 0, 1) := by decide +kernel
theorem d_224_26 : decode (mC 224) 26 = .ok (.aload_n 0, 1) := by decide +kernel
theorem d_224_27 : decode (mC 224) 27 = .ok (.getfield 223, 3) := by decide +kernel
theorem d_224_30 : decode (mC 224) 30 = .ok (.invokevirtual 220, 3) := by decide +kernel
theorem d_224_33 : decode (mC 224) 33 = .ok (.ifCond .ge 8, 3) := by decide +kernel
theorem d_224_36 : decode (mC 224) 36 = .ok (.aload_n 0, 1) := by decide +kernel
theorem d_224_37 : decode (mC 224) 37 = .ok (.iconst 5, 1) := by decide +kernel
theorem d_224_38 : decode (mC 224) 38 = .ok (.invokevirtual 199, 3) := by decide +kernel
theorem vk_224_199 : VK 224 199 216 1 12 := ⟨⟨List.mem_of_getElem? (i := 1584) (by decide +kernel), by decide +kernel⟩, List.mem_of_getElem? (i := 1586) (by decide +kernel), mo_216, m0_216, _, rfl, List.mem_of_getElem? (i := 39) (by decide +kernel), by decide⟩
theorem d_224_16 : decode (mC 224) 16 = .ok (.aload_n 0, 1) := by decide +kernel
theorem d_224_17 : decode (mC 224) 17 = .ok (.iconst 2, 1) := by decide +kernel
theorem d_224_18 : decode (mC 224) 18 = .ok (.invokevirtual 199, 3) := by decide +kernel
theorem d_224_21 : decode (mC 224) 21 = .ok (.goto 20, 3) := by decide +kernel
theorem d_224_7 : decode (mC 224) 7 = .ok (.iconst 0, 1) := by decide +kernel
theorem d_224_8 : decode (mC 224) 8 = .ok (.ireturn, 1) := by decide +kernel
theorem ml_224 : mL 224 = 1 := by decide +kernel
theorem d_225_0 : decode (mC 225) 0 = .ok (.iload_n 0, 1) := by decide +kernel
theorem d_225_1 : decode (mC 225) 1 = .ok (.iload_n 1, 1) := by decide +kernel
theorem d_225_2 : decode (mC 225) 2 = .ok (.ishr, 1) := by decide +kernel
theorem d_225_3 : decode (mC 225) 3 = .ok (.iconst 1, 1) := by decide +kernel
theorem d_225_4 : decode (mC 225) 4 = .ok (.iand, 1) := by decide +kernel
theorem d_225_5 : decode (mC 225) 5 = .ok (.iconst 1, 1) := by decide +kernel
theorem d_225_6 : decode (mC 225) 6 = .ok (.if_icmp .ne 7, 3) := by decide +kernel
theorem d_225_13 : decode (mC 225) 13 = .ok (.iconst 0, 1) := by decide +kernel
theorem d_225_14 : decode (mC 225) 14 = .ok (.ireturn, 1) := by decide +kernel
theorem mr_225 : mR 225 = some .boolean := by decide +kernel
theorem d_225_9 : decode (mC 225) 9 = .ok (.iconst 1, 1) := by decide +kernel
theorem d_225_10 : decode (mC 225) 10 = .ok (.goto 4, 3) := by decide +kernel
theorem ml_225 : mL 225 = 2 := by decide +kernel
theorem d_223_33 : decode (mC 223) 33 = .ok (.aload_n 0, 1) := by decide +kernel
theorem d_223_34 : decode (mC 223) 34 = .ok (.getfield 152, 3) := by decide +kernel
theorem cn_223 : (mN 223).cls = "CordLoftModel" := by decide +kernel
theorem d_223_37 : decode (mC 223) 37 = .ok (.ifCond .le 4, 3) := by decide +kernel
theorem d_223_41 : decode (mC 223) 41 = .ok (.aload_n 0, 1) := by decide +kernel
theorem d_223_42 : decode (mC 223) 42 = .ok (.getfield 48, 3) := by decide +kernel
theorem fk_CordLoftModel_48 : FK 2 "CordLoftModel" 48 12 29 := ⟨⟨_, rfl, by decide, List.mem_of_getElem? (i := 1320) (by decide +kernel)⟩, rfl, by decide⟩
theorem ft_13_29 : finT 13 29 = some (117, 0) := by decide +kernel
theorem k_117 : kd0 117 = 20 := by decide +kernel
theorem l_117 : ln0 117 = 8 := by decide +kernel
theorem d_223_45 : decode (mC 223) 45 = .ok (.aload_n 0, 1) := by decide +kernel
theorem d_223_46 : decode (mC 223) 46 = .ok (.getfield 323, 3) := by decide +kernel
theorem fk_CordLoftModel_323 : FK 0 "CordLoftModel" 323 12 36 := ⟨⟨_, rfl, by decide, List.mem_of_getElem? (i := 1327) (by decide +kernel)⟩, rfl, by decide⟩
theorem d_223_49 : decode (mC 223) 49 = .ok (.dup2, 1) := by decide +kernel
theorem d_223_50 : decode (mC 223) 50 = .ok (.iaload, 1) := by decide +kernel
theorem d_223_51 : decode (mC 223) 51 = .ok (.iconst 1, 1) := by decide +kernel
theorem d_223_52 : decode (mC 223) 52 = .ok (.iload_n 1, 1) := by decide +kernel
theorem d_223_53 : decode (mC 223) 53 = .ok (.ishl, 1) := by decide +kernel
theorem d_223_54 : decode (mC 223) 54 = .ok (.ior, 1) := by decide +kernel
theorem d_223_55 : decode (mC 223) 55 = .ok (.iastore, 1) := by decide +kernel
theorem d_223_56 : decode (mC 223) 56 = .ok (.aload_n 0, 1) := by decide +kernel
theorem d_223_57 : decode (mC 223) 57 = .ok (.invokevirtual 202, 3) := by decide +kernel
theorem vk_223_202 : VK 223 202 205 0 12 := ⟨⟨List.mem_of_getElem? (i := 1525) (by decide +kernel), by decide +kernel⟩, List.mem_of_getElem? (i := 1527) (by decide +kernel), mo_205, m0_205, _, rfl, List.mem_of_getElem? (i := 31) (by decide +kernel), by decide⟩
theorem d_223_60 : decode (mC 223) 60 = .ok (.return_, 1) := by decide +kernel
theorem mr_223 : mR 223 = none := by decide +kernel
theorem d_223_40 : decode (mC 223) 40 = .ok (.return_, 1) := by decide +kernel
theorem d_223_0 : decode (mC 223) 0 = .ok (.aload_n 0, 1) := by decide +kernel
theorem d_223_1 : decode (mC 223) 1 = .ok (.invokevirtual 320, 3) := by decide +kernel
theorem mo_224 : MOK 224 := ⟨List.mem_of_getElem? (i := 1619) (by decide +kernel), by decide +kernel, ⟨by decide +kernel, by decide +kernel⟩, List.mem_of_getElem? (i := 100) (by decide +kernel), by decide +kernel⟩
theorem m0_224 : M0K 224 := ⟨by decide +kernel, by decide +kernel⟩
theorem vk_223_320 : VK 223 320 224 0 12 := ⟨⟨List.mem_of_getElem? (i := 1616) (by decide +kernel), by decide +kernel⟩, List.mem_of_getElem? (i := 1618) (by decide +kernel), mo_224, m0_224, _, rfl, List.mem_of_getElem? (i := 47) (by decide +kernel), by decide⟩
theorem d_223_4 : decode (mC 223) 4 = .ok (.istore_n 1, 1) := by decide +kernel
theorem ml_223 : mL 223 = 2 := by decide +kernel
theorem d_223_5 : decode (mC 223) 5 = .ok (.aload_n 0, 1) := by decide +kernel
theorem d_223_6 : decode (mC 223) 6 = .ok (.getfield 152, 3) := by decide +kernel
theorem d_223_9 : decode (mC 223) 9 = .ok (.ifCond .ne 24, 3) := by decide +kernel
theorem d_223_12 : decode (mC 223) 12 = .ok (.aload_n 0, 1) := by decide +kernel
theorem d_223_13 : decode (mC 223) 13 = .ok (.getfield 48, 3) := by decide +kernel
theorem d_223_16 : decode (mC 223) 16 = .ok (.aload_n 0, 1) := by decide +kernel
theorem d_223_17 : decode (mC 223) 17 = .ok (.getfield 323, 3) := by decide +kernel
theorem d_223_20 : decode (mC 223) 20 = .ok (.iaload, 1) := by decide +kernel
theorem d_223_21 : decode (mC 223) 21 = .ok (.iload_n 1, 1) := by decide +kernel
theorem d_223_22 : decode (mC 223) 22 = .ok (.invokestatic 326, 3) := by decide +kernel
theorem mo_225 : MOK 225 := ⟨List.mem_of_getElem? (i := 1622) (by decide +kernel), by decide +kernel, ⟨by decide +kernel, by decide +kernel⟩, List.mem_of_getElem? (i := 100) (by decide +kernel), by decide +kernel⟩
theorem m0_225 : M0K 225 := ⟨by decide +kernel, by decide +kernel⟩
theorem sk_223_326 : SKc 223 326 225 2 := ⟨⟨List.mem_of_getElem? (i := 1620) (by decide +kernel), by decide +kernel⟩, List.mem_of_getElem? (i := 1621) (by decide +kernel), mo_225, m0_225⟩
theorem d_223_25 : decode (mC 223) 25 = .ok (.ifCond .eq 8, 3) := by decide +kernel
theorem d_223_28 : decode (mC 223) 28 = .ok (.aload_n 0, 1) := by decide +kernel
theorem d_223_29 : decode (mC 223) 29 = .ok (.iconst 3, 1) := by decide +kernel
theorem d_223_30 : decode (mC 223) 30 = .ok (.invokevirtual 199, 3) := by decide +kernel
theorem vk_223_199 : VK 223 199 216 1 12 := ⟨⟨List.mem_of_getElem? (i := 1584) (by decide +kernel), by decide +kernel⟩, List.mem_of_getElem? (i := 1586) (by decide +kernel), mo_216, m0_216, _, rfl, List.mem_of_getElem? (i := 39) (by decide +kernel), by decide⟩
theorem d_222_39 : decode (mC 222) 39 = .ok (.aload_n 0, 1) := by decide +kernel
theorem d_222_40 : decode (mC 222) 40 = .ok (.getfield 152, 3) := by decide +kernel
theorem cn_222 : (mN 222).cls = "CordLoftModel" := by decide +kernel
theorem d_222_43 : decode (mC 222) 43 = .ok (.ifCond .ne 17, 3) := by decide +kernel
theorem d_222_46 : decode (mC 222) 46 = .ok (.aload_n 0, 1) := by decide +kernel
theorem d_222_47 : decode (mC 222) 47 = .ok (.invokevirtual 217, 3) := by decide +kernel
theorem vk_222_217 : VK 222 217 214 0 12 := ⟨⟨List.mem_of_getElem? (i := 1559) (by decide +kernel), by decide +kernel⟩, List.mem_of_getElem? (i := 1561) (by decide +kernel), mo_214, m0_214, _, rfl, List.mem_of_getElem? (i := 37) (by decide +kernel), by decide⟩
theorem d_222_50 : decode (mC 222) 50 = .ok (.ifCond .eq 10, 3) := by decide +kernel
theorem d_222_53 : decode (mC 222) 53 = .ok (.aload_n 0, 1) := by decide +kernel
theorem d_222_54 : decode (mC 222) 54 = .ok (.invokevirtual 330, 3) := by decide +kernel
theorem mo_223 : MOK 223 := ⟨List.mem_of_getElem? (i := 1615) (by decide +kernel), by decide +kernel, ⟨by decide +kernel, by decide +kernel⟩, List.mem_of_getElem? (i := 100) (by decide +kernel), by decide +kernel⟩
theorem m0_223 : M0K 223 := ⟨by decide +kernel, by decide +kernel⟩
theorem vk_222_330 : VK 222 330 223 0 12 := ⟨⟨List.mem_of_getElem? (i := 1612) (by decide +kernel), by decide +kernel⟩, List.mem_of_getElem? (i := 1614) (by decide +kernel), mo_223, m0_223, _, rfl, List.mem_of_getElem? (i := 46) (by decide +kernel), by decide⟩
theorem d_222_57 : decode (mC 222) 57 = .ok (.goto (-18), 3) := by decide +kernel
theorem d_222_0 : decode (mC 222) 0 = .ok (.aload_n 0, 1) := by decide +kernel
theorem d_222_1 : decode (mC 222) 1 = .ok (.bipush 8, 2) := by decide +kernel
theorem d_222_3 : decode (mC 222) 3 = .ok (.aload_n 0, 1) := by decide +kernel
theorem d_222_4 : decode (mC 222) 4 = .ok (.getfield 323, 3) := by decide +kernel
theorem d_222_7 : decode (mC 222) 7 = .ok (.invokevirtual 310, 3) := by decide +kernel
theorem vk_222_310 : VK 222 310 213 2 12 := ⟨⟨List.mem_of_getElem? (i := 1555) (by decide +kernel), by decide +kernel⟩, List.mem_of_getElem? (i := 1557) (by decide +kernel), mo_213, m0_213, _, rfl, List.mem_of_getElem? (i := 36) (by decide +kernel), by decide⟩
theorem d_222_10 : decode (mC 222) 10 = .ok (.aload_n 0, 1) := by decide +kernel
theorem d_222_11 : decode (mC 222) 11 = .ok (.ldc2_w 163, 3) := by decide +kernel
theorem d_222_14 : decode (mC 222) 14 = .ok (.invokevirtual 205, 3) := by decide +kernel
theorem vk_222_205 : VK 222 205 220 1 12 := ⟨⟨List.mem_of_getElem? (i := 1600) (by decide +kernel), by decide +kernel⟩, List.mem_of_getElem? (i := 1602) (by decide +kernel), mo_220, m0_220, _, rfl, List.mem_of_getElem? (i := 43) (by decide +kernel), by decide⟩
theorem d_222_17 : decode (mC 222) 17 = .ok (.aload_n 0, 1) := by decide +kernel
theorem d_222_18 : decode (mC 222) 18 = .ok (.getfield 152, 3) := by decide +kernel
theorem d_222_21 : decode (mC 222) 21 = .ok (.ifCond .le 4, 3) := by decide +kernel
theorem d_222_25 : decode (mC 222) 25 = .ok (.aload_n 0, 1) := by decide +kernel
theorem d_222_26 : decode (mC 222) 26 = .ok (.getfield 48, 3) := by decide +kernel
theorem d_222_29 : decode (mC 222) 29 = .ok (.aload_n 0, 1) := by decide +kernel
theorem d_222_30 : decode (mC 222) 30 = .ok (.getfield 323, 3) := by decide +kernel
theorem d_222_33 : decode (mC 222) 33 = .ok (.iconst 0, 1) := by decide +kernel
theorem d_222_34 : decode (mC 222) 34 = .ok (.iastore, 1) := by decide +kernel
theorem d_222_35 : decode (mC 222) 35 = .ok (.aload_n 0, 1) := by decide +kernel
theorem d_222_36 : decode (mC 222) 36 = .ok (.invokevirtual 330, 3) := by decide +kernel
theorem d_222_60 : decode (mC 222) 60 = .ok (.aload_n 0, 1) := by decide +kernel
theorem d_222_61 : decode (mC 222) 61 = .ok (.getfield 51, 3) := by decide +kernel
theorem fk_CordLoftModel_51 : FK 2 "CordLoftModel" 51 12 30 := ⟨⟨_, rfl, by decide, List.mem_of_getElem? (i := 1321) (by decide +kernel)⟩, rfl, by decide⟩
theorem ft_13_30 : finT 13 30 = some (118, 0) := by decide +kernel
theorem k_118 : kd0 118 = 20 := by decide +kernel
theorem l_118 : ln0 118 = 8 := by decide +kernel
theorem d_222_64 : decode (mC 222) 64 = .ok (.aload_n 0, 1) := by decide +kernel
theorem d_222_65 : decode (mC 222) 65 = .ok (.getfield 323, 3) := by decide +kernel
theorem d_222_68 : decode (mC 222) 68 = .ok (.aload_n 0, 1) := by decide +kernel
theorem d_222_69 : decode (mC 222) 69 = .ok (.ldc2_w 165, 3) := by decide +kernel
theorem d_222_72 : decode (mC 222) 72 = .ok (.bipush 20, 2) := by decide +kernel
theorem d_222_74 : decode (mC 222) 74 = .ok (.invokevirtual 316, 3) := by decide +kernel
theorem vk_222_316 : VK 222 316 218 2 12 := ⟨⟨List.mem_of_getElem? (i := 1592) (by decide +kernel), by decide +kernel⟩, List.mem_of_getElem? (i := 1594) (by decide +kernel), mo_218, m0_218, _, rfl, List.mem_of_getElem? (i := 41) (by decide +kernel), by decide⟩
theorem d_222_77 : decode (mC 222) 77 = .ok (.iastore, 1) := by decide +kernel
theorem d_222_78 : decode (mC 222) 78 = .ok (.aload_n 0, 1) := by decide +kernel
theorem d_222_79 : decode (mC 222) 79 = .ok (.getfield 152, 3) := by decide +kernel
theorem d_222_82 : decode (mC 222) 82 = .ok (.ifCond .ne 13, 3) := by decide +kernel
theorem d_222_95 : decode (mC 222) 95 = .ok (.return_, 1) := by decide +kernel
theorem mr_222 : mR 222 = none := by decide +kernel
theorem d_222_85 : decode (mC 222) 85 = .ok (.aload_n 0, 1) := by decide +kernel
theorem d_222_86 : decode (mC 222) 86 = .ok (.dup, 1) := by decide +kernel
theorem d_222_87 : decode (mC 222) 87 = .ok (.getfield 323, 3) := by decide +kernel
theorem d_222_90 : decode (mC 222) 90 = .ok (.iconst 1, 1) := by decide +kernel
theorem d_222_91 : decode (mC 222) 91 = .ok (.iadd, 1) := by decide +kernel
theorem d_222_92 : decode (mC 222) 92 = .ok (.putfield 323, 3) := by decide +kernel
theorem fp_CordLoftModel_323 : FP 0 "CordLoftModel" 323 12 36 := ⟨⟨_, rfl, by decide, List.mem_of_getElem? (i := 1327) (by decide +kernel), rfl⟩, rfl, by decide, by decide +kernel⟩
theorem d_222_24 : decode (mC 222) 24 = .ok (.return_, 1) := by decide +kernel
theorem ml_222 : mL 222 = 1 := by decide +kernel
theorem d_226_55 : decode (mC 226) 55 = .ok (.aload_n 0, 1) := by decide +kernel
theorem d_226_56 : decode (mC 226) 56 = .ok (.getfield 152, 3) := by decide +kernel
theorem cn_226 : (mN 226).cls = "CordLoftModel" := by decide +kernel
theorem d_226_59 : decode (mC 226) 59 = .ok (.ifCond .le 4, 3) := by decide +kernel
theorem d_226_63 : decode (mC 226) 63 = .ok (.aload_n 0, 1) := by decide +kernel
theorem d_226_64 : decode (mC 226) 64 = .ok (.getfield 45, 3) := by decide +kernel
theorem d_226_67 : decode (mC 226) 67 = .ok (.iload_n 1, 1) := by decide +kernel
theorem d_226_68 : decode (mC 226) 68 = .ok (.dup2, 1) := by decide +kernel
theorem d_226_69 : decode (mC 226) 69 = .ok (.iaload, 1) := by decide +kernel
theorem d_226_70 : decode (mC 226) 70 = .ok (.iconst 1, 1) := by decide +kernel
theorem d_226_71 : decode (mC 226) 71 = .ok (.iload_n 2, 1) := by decide +kernel
theorem d_226_72 : decode (mC 226) 72 = .ok (.ishl, 1) := by decide +kernel
theorem d_226_73 : decode (mC 226) 73 = .ok (.ior, 1) := by decide +kernel
theorem d_226_74 : decode (mC 226) 74 = .ok (.iastore, 1) := by decide +kernel
theorem d_226_75 : decode (mC 226) 75 = .ok (.aload_n 0, 1) := by decide +kernel
theorem d_226_76 : decode (mC 226) 76 = .ok (.getfield 45, 3) := by decide +kernel
theorem d_226_79 : decode (mC 226) 79 = .ok (.iload_n 2, 1) := by decide +kernel
theorem d_226_80 : decode (mC 226) 80 = .ok (.dup2, 1) := by decide +kernel
theorem d_226_81 : decode (mC 226) 81 = .ok (.iaload, 1) := by decide +kernel
theorem d_226_82 : decode (mC 226) 82 = .ok (.iconst 1, 1) := by decide +kernel
theorem d_226_83 : decode (mC 226) 83 = .ok (.iload_n 1, 1) := by decide +kernel
theorem d_226_84 : decode (mC 226) 84 = .ok (.ishl, 1) := by decide +kernel
theorem d_226_85 : decode (mC 226) 85 = .ok (.ior, 1) := by decide +kernel
theorem d_226_86 : decode (mC 226) 86 = .ok (.iastore, 1) := by decide +kernel
theorem d_226_87 : decode (mC 226) 87 = .ok (.aload_n 0, 1) := by decide +kernel
theorem d_226_88 : decode (mC 226) 88 = .ok (.invokevirtual 202, 3) := by decide +kernel
theorem vk_226_202 : VK 226 202 205 0 12 := ⟨⟨List.mem_of_getElem? (i := 1525) (by decide +kernel), by decide +kernel⟩, List.mem_of_getElem? (i := 1527) (by decide +kernel), mo_205, m0_205, _, rfl, List.mem_of_getElem? (i := 31) (by decide +kernel), by decide⟩
theorem d_226_91 : decode (mC 226) 91 = .ok (.return_, 1) := by decide +kernel
theorem mr_226 : mR 226 = none := by decide +kernel
theorem d_226_62 : decode (mC 226) 62 = .ok (.return_, 1) := by decide +kernel
theorem d_226_50 : decode (mC 226) 50 = .ok (.aload_n 0, 1) := by decide +kernel
theorem d_226_51 : decode (mC 226) 51 = .ok (.iconst 3, 1) := by decide +kernel
theorem d_226_52 : decode (mC 226) 52 = .ok (.invokevirtual 199, 3) := by decide +kernel
theorem vk_226_199 : VK 226 199 216 1 12 := ⟨⟨List.mem_of_getElem? (i := 1584) (by decide +kernel), by decide +kernel⟩, List.mem_of_getElem? (i := 1586) (by decide +kernel), mo_216, m0_216, _, rfl, List.mem_of_getElem? (i := 39) (by decide +kernel), by decide⟩
theorem d_226_20 : decode (mC 226) 20 = .ok (.aload_n 0, 1) := by decide +kernel
theorem d_226_21 : decode (mC 226) 21 = .ok (.invokevirtual 320, 3) := by decide +kernel
theorem vk_226_320 : VK 226 320 224 0 12 := ⟨⟨List.mem_of_getElem? (i := 1616) (by decide +kernel), by decide +kernel⟩, List.mem_of_getElem? (i := 1618) (by decide +kernel), mo_224, m0_224, _, rfl, List.mem_of_getElem? (i := 47) (by decide +kernel), by decide⟩
theorem d_226_24 : decode (mC 226) 24 = .ok (.istore_n 2, 1) := by decide +kernel
theorem ml_226 : mL 226 = 3 := by decide +kernel
theorem d_226_25 : decode (mC 226) 25 = .ok (.aload_n 0, 1) := by decide +kernel
theorem d_226_26 : decode (mC 226) 26 = .ok (.getfield 152, 3) := by decide +kernel
theorem d_226_29 : decode (mC 226) 29 = .ok (.ifCond .ne 26, 3) := by decide +kernel
theorem d_226_32 : decode (mC 226) 32 = .ok (.iload_n 1, 1) := by decide +kernel
theorem d_226_33 : decode (mC 226) 33 = .ok (.iload_n 2, 1) := by decide +kernel
theorem d_226_34 : decode (mC 226) 34 = .ok (.if_icmp .eq 16, 3) := by decide +kernel
theorem d_226_37 : decode (mC 226) 37 = .ok (.aload_n 0, 1) := by decide +kernel
theorem d_226_38 : decode (mC 226) 38 = .ok (.getfield 45, 3) := by decide +kernel
theorem d_226_41 : decode (mC 226) 41 = .ok (.iload_n 1, 1) := by decide +kernel
theorem d_226_42 : decode (mC 226) 42 = .ok (.iaload, 1) := by decide +kernel
theorem d_226_43 : decode (mC 226) 43 = .ok (.iload_n 2, 1) := by decide +kernel
theorem d_226_44 : decode (mC 226) 44 = .ok (.invokestatic 326, 3) := by decide +kernel
theorem sk_226_326 : SKc 226 326 225 2 := ⟨⟨List.mem_of_getElem? (i := 1620) (by decide +kernel), by decide +kernel⟩, List.mem_of_getElem? (i := 1621) (by decide +kernel), mo_225, m0_225⟩
theorem d_226_47 : decode (mC 226) 47 = .ok (.ifCond .eq 8, 3) := by decide +kernel
theorem d_226_0 : decode (mC 226) 0 = .ok (.aload_n 0, 1) := by decide +kernel
theorem d_226_1 : decode (mC 226) 1 = .ok (.invokevirtual 202, 3) := by decide +kernel
theorem d_226_4 : decode (mC 226) 4 = .ok (.aload_n 0, 1) := by decide +kernel
theorem d_226_5 : decode (mC 226) 5 = .ok (.invokevirtual 320, 3) := by decide +kernel
theorem d_226_8 : decode (mC 226) 8 = .ok (.istore_n 1, 1) := by decide +kernel
theorem d_226_9 : decode (mC 226) 9 = .ok (.aload_n 0, 1) := by decide +kernel
theorem d_226_10 : decode (mC 226) 10 = .ok (.getfield 152, 3) := by decide +kernel
theorem d_226_13 : decode (mC 226) 13 = .ok (.ifCond .ne 7, 3) := by decide +kernel
theorem d_226_16 : decode (mC 226) 16 = .ok (.aload_n 0, 1) := by decide +kernel
theorem d_226_17 : decode (mC 226) 17 = .ok (.invokevirtual 202, 3) := by decide +kernel
theorem d_230_0 : decode (mC 230) 0 = .ok (.iload_n 0, 1) := by decide +kernel
theorem d_230_1 : decode (mC 230) 1 = .ok (.lookupswitch 85 #[(21, 79), (38, 77), (43, 83), (45, 83), (60, 81), (61, 81), (62, 81), (124, 75)], 75) := by decide +kernel
theorem d_230_80 : decode (mC 230) 80 = .ok (.iconst 3, 1) := by decide +kernel
theorem d_230_81 : decode (mC 230) 81 = .ok (.ireturn, 1) := by decide +kernel
theorem mr_230 : mR 230 = some .int := by decide +kernel
theorem d_230_78 : decode (mC 230) 78 = .ok (.iconst 2, 1) := by decide +kernel
theorem d_230_79 : decode (mC 230) 79 = .ok (.ireturn, 1) := by decide +kernel
theorem d_230_84 : decode (mC 230) 84 = .ok (.iconst 5, 1) := by decide +kernel
theorem d_230_85 : decode (mC 230) 85 = .ok (.ireturn, 1) := by decide +kernel
theorem d_230_82 : decode (mC 230) 82 = .ok (.iconst 4, 1) := by decide +kernel
theorem d_230_83 : decode (mC 230) 83 = .ok (.ireturn, 1) := by decide +kernel
theorem d_230_76 : decode (mC 230) 76 = .ok (.iconst 1, 1) := by decide +kernel
theorem d_230_77 : decode (mC 230) 77 = .ok (.ireturn, 1) := by decide +kernel
theorem d_230_86 : decode (mC 230) 86 = .ok (.bipush 6, 2) := by decide +kernel
theorem d_230_88 : decode (mC 230) 88 = .ok (.ireturn, 1) := by decide +kernel
theorem ml_230 : mL 230 = 1 := by decide +kernel
theorem d_229_41 : decode (mC 229) 41 = .ok (.iconst 1, 1) := by decide +kernel
theorem d_229_42 : decode (mC 229) 42 = .ok (.goto 4, 3) := by decide +kernel
theorem d_229_46 : decode (mC 229) 46 = .ok (.ireturn, 1) := by decide +kernel
theorem mr_229 : mR 229 = some .boolean := by decide +kernel
theorem d_229_0 : decode (mC 229) 0 = .ok (.aload_n 0, 1) := by decide +kernel
theorem d_229_1 : decode (mC 229) 1 = .ok (.getfield 229, 3) := by decide +kernel
theorem fk_CordLoftModel_229 : FK 0 "CordLoftModel" 229 12 19 := ⟨⟨_, rfl, by decide, List.mem_of_getElem? (i := 1310) (by decide +kernel)⟩, rfl, by decide⟩
theorem cn_229 : (mN 229).cls = "CordLoftModel" := by decide +kernel
theorem d_229_4 : decode (mC 229) 4 = .ok (.ifCond .eq 37, 3) := by decide +kernel
theorem d_229_7 : decode (mC 229) 7 = .ok (.aload_n 0, 1) := by decide +kernel
theorem d_229_8 : decode (mC 229) 8 = .ok (.getfield 33, 3) := by decide +kernel
theorem fk_CordLoftModel_33 : FK 2 "CordLoftModel" 33 12 15 := ⟨⟨_, rfl, by decide, List.mem_of_getElem? (i := 1306) (by decide +kernel)⟩, rfl, by decide⟩
theorem ft_13_15 : finT 13 15 = some (112, 0) := by decide +kernel
theorem k_112 : kd0 112 = 20 := by decide +kernel
theorem l_112 : ln0 112 = 160 := by decide +kernel
theorem d_229_11 : decode (mC 229) 11 = .ok (.aload_n 0, 1) := by decide +kernel
theorem d_229_12 : decode (mC 229) 12 = .ok (.getfield 229, 3) := by decide +kernel
theorem d_229_15 : decode (mC 229) 15 = .ok (.iconst 1, 1) := by decide +kernel
theorem d_229_16 : decode (mC 229) 16 = .ok (.isub, 1) := by decide +kernel
theorem d_229_17 : decode (mC 229) 17 = .ok (.iaload, 1) := by decide +kernel
theorem d_229_18 : decode (mC 229) 18 = .ok (.bipush 20, 2) := by decide +kernel
theorem d_229_20 : decode (mC 229) 20 = .ok (.if_icmp .eq 21, 3) := by decide +kernel
theorem d_229_23 : decode (mC 229) 23 = .ok (.aload_n 0, 1) := by decide +kernel
theorem d_229_24 : decode (mC 229) 24 = .ok (.getfield 33, 3) := by decide +kernel
theorem d_229_27 : decode (mC 229) 27 = .ok (.aload_n 0, 1) := by decide +kernel
theorem d_229_28 : decode (mC 229) 28 = .ok (.getfield 229, 3) := by decide +kernel
theorem d_229_31 : decode (mC 229) 31 = .ok (.iconst 1, 1) := by decide +kernel
theorem d_229_32 : decode (mC 229) 32 = .ok (.isub, 1) := by decide +kernel
theorem d_229_33 : decode (mC 229) 33 = .ok (.iaload, 1) := by decide +kernel
theorem d_229_34 : decode (mC 229) 34 = .ok (.invokestatic 232, 3) := by decide +kernel
theorem mo_230 : MOK 230 := ⟨List.mem_of_getElem? (i := 1641) (by decide +kernel), by decide +kernel, ⟨by decide +kernel, by decide +kernel⟩, List.mem_of_getElem? (i := 100) (by decide +kernel), by decide +kernel⟩
theorem m0_230 : M0K 230 := ⟨by decide +kernel, by decide +kernel⟩
theorem sk_229_232 : SKc 229 232 230 1 := ⟨⟨List.mem_of_getElem? (i := 1639) (by decide +kernel), by decide +kernel⟩, List.mem_of_getElem? (i := 1640) (by decide +kernel), mo_230, m0_230⟩
theorem d_229_37 : decode (mC 229) 37 = .ok (.iconst 4, 1) := by decide +kernel
theorem d_229_38 : decode (mC 229) 38 = .ok (.if_icmp .ge 7, 3) := by decide +kernel
theorem d_229_45 : decode (mC 229) 45 = .ok (.iconst 0, 1) := by decide +kernel
theorem ml_229 : mL 229 = 1 := by decide +kernel
theorem d_231_0 : decode (mC 231) 0 = .ok (.aload_n 0, 1) := by decide +kernel
theorem d_231_1 : decode (mC 231) 1 = .ok (.getfield 33, 3) := by decide +kernel
theorem cn_231 : (mN 231).cls = "CordLoftModel" := by decide +kernel
theorem d_231_4 : decode (mC 231) 4 = .ok (.aload_n 0, 1) := by decide +kernel
theorem d_231_5 : decode (mC 231) 5 = .ok (.getfield 229, 3) := by decide +kernel
theorem d_231_8 : decode (mC 231) 8 = .ok (.iload_n 1, 1) := by decide +kernel
theorem d_231_9 : decode (mC 231) 9 = .ok (.iastore, 1) := by decide +kernel
theorem d_231_10 : decode (mC 231) 10 = .ok (.aload_n 0, 1) := by decide +kernel
theorem d_231_11 : decode (mC 231) 11 = .ok (.dup, 1) := by decide +kernel
theorem d_231_12 : decode (mC 231) 12 = .ok (.getfield 229, 3) := by decide +kernel
theorem d_231_15 : decode (mC 231) 15 = .ok (.iconst 1, 1) := by decide +kernel
theorem d_231_16 : decode (mC 231) 16 = .ok (.iadd, 1) := by decide +kernel
theorem d_231_17 : decode (mC 231) 17 = .ok (.putfield 229, 3) := by decide +kernel
theorem fp_CordLoftModel_229 : FP 0 "CordLoftModel" 229 12 19 := ⟨⟨_, rfl, by decide, List.mem_of_getElem? (i := 1310) (by decide +kernel), rfl⟩, rfl, by decide, by decide +kernel⟩
theorem d_231_20 : decode (mC 231) 20 = .ok (.aload_n 0, 1) := by decide +kernel
theorem d_231_21 : decode (mC 231) 21 = .ok (.dup, 1) := by decide +kernel
theorem d_231_22 : decode (mC 231) 22 = .ok (.getfield 239, 3) := by decide +kernel
theorem fk_CordLoftModel_239 : FK 0 "CordLoftModel" 239 12 23 := ⟨⟨_, rfl, by decide, List.mem_of_getElem? (i := 1314) (by decide +kernel)⟩, rfl, by decide⟩
theorem d_231_25 : decode (mC 231) 25 = .ok (.iconst 1, 1) := by decide +kernel
theorem d_231_26 : decode (mC 231) 26 = .ok (.iadd, 1) := by decide +kernel
theorem d_231_27 : decode (mC 231) 27 = .ok (.putfield 239, 3) := by decide +kernel
theorem fp_CordLoftModel_239 : FP 0 "CordLoftModel" 239 12 23 := ⟨⟨_, rfl, by decide, List.mem_of_getElem? (i := 1314) (by decide +kernel), rfl⟩, rfl, by decide, by decide +kernel⟩
