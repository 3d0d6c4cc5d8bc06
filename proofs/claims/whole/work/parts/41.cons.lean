theorem d_329_0 : decode (mC 329) 0 = .ok (.new 7, 3) := by decide +kernel
theorem cw1_329_7 : Cond.classLink (mN 329).cls 7 RX11 ∈ lw_tbl := List.mem_of_getElem? (i := 108) (by decide +kernel)
theorem cw2_11 : Cond.instantiable RX11 15 ∈ lw_tbl := List.mem_of_getElem? (i := 109) (by decide +kernel)
theorem cw3_11 : Cond.initialized RX11 ∈ lw_tbl := List.mem_of_getElem? (i := 88) (by decide +kernel)
theorem d_329_3 : decode (mC 329) 3 = .ok (.dup, 1) := by decide +kernel
theorem d_329_4 : decode (mC 329) 4 = .ok (.invokespecial 9, 3) := by decide +kernel
theorem mo_0 : MOK 0 := ⟨List.mem_of_getElem? (i := 112) (by decide +kernel), by decide +kernel, ⟨by decide +kernel, by decide +kernel⟩, List.mem_of_getElem? (i := 88) (by decide +kernel), by decide +kernel⟩
theorem iw_0 : Cond.instanceMethod (mN 0) ∈ lw_tbl := List.mem_of_getElem? (i := 111) (by decide +kernel)
theorem lb_329_9 : LKB 329 9 0 0 := ⟨List.mem_of_getElem? (i := 110) (by decide +kernel), by decide +kernel⟩
theorem mr_0 : mR 0 = none := by decide +kernel
theorem ml_0 : mL 0 = 2 := by decide +kernel
theorem d_0_0 : decode (mC 0) 0 = .ok (.aload_n 0, 1) := by decide +kernel
theorem d_0_1 : decode (mC 0) 1 = .ok (.invokespecial 1, 3) := by decide +kernel
theorem ow_0 : Cond.methodLink (mN 0).cls 1 Lib.objectInit ∈ lw_tbl := List.mem_of_getElem? (i := 113) (by decide +kernel)
theorem d_0_4 : decode (mC 0) 4 = .ok (.aload_n 0, 1) := by decide +kernel
theorem d_0_5 : decode (mC 0) 5 = .ok (.new 7, 3) := by decide +kernel
theorem cw1_0_7 : Cond.classLink (mN 0).cls 7 RX9 ∈ lw_tbl := List.mem_of_getElem? (i := 116) (by decide +kernel)
theorem cw2_9 : Cond.instantiable RX9 2 ∈ lw_tbl := List.mem_of_getElem? (i := 117) (by decide +kernel)
theorem cw3_9 : Cond.initialized RX9 ∈ lw_tbl := List.mem_of_getElem? (i := 89) (by decide +kernel)
theorem d_0_8 : decode (mC 0) 8 = .ok (.dup, 1) := by decide +kernel
theorem d_0_9 : decode (mC 0) 9 = .ok (.invokespecial 9, 3) := by decide +kernel
theorem mo_2 : MOK 2 := ⟨List.mem_of_getElem? (i := 120) (by decide +kernel), by decide +kernel, ⟨by decide +kernel, by decide +kernel⟩, List.mem_of_getElem? (i := 89) (by decide +kernel), by decide +kernel⟩
theorem iw_2 : Cond.instanceMethod (mN 2) ∈ lw_tbl := List.mem_of_getElem? (i := 119) (by decide +kernel)
theorem nw_0_9 : Cond.methodLinkNest (mN 0).cls 9 (mN 2) "CordLoft" ∈ lw_tbl := List.mem_of_getElem? (i := 118) (by decide +kernel)
theorem mr_2 : mR 2 = none := by decide +kernel
theorem ml_2 : mL 2 = 1 := by decide +kernel
theorem d_2_0 : decode (mC 2) 0 = .ok (.aload_n 0, 1) := by decide +kernel
theorem d_2_1 : decode (mC 2) 1 = .ok (.invokespecial 3, 3) := by decide +kernel
theorem ow_2 : Cond.methodLink (mN 2).cls 3 Lib.objectInit ∈ lw_tbl := List.mem_of_getElem? (i := 121) (by decide +kernel)
theorem d_2_4 : decode (mC 2) 4 = .ok (.aload_n 0, 1) := by decide +kernel
theorem d_2_5 : decode (mC 2) 5 = .ok (.sipush 1600, 3) := by decide +kernel
theorem d_2_8 : decode (mC 2) 8 = .ok (.newarray .byte, 2) := by decide +kernel
theorem aw_byte : Cond.arrayClass .byte ∈ lw_tbl := List.mem_of_getElem? (i := 130) (by decide +kernel)
theorem d_2_10 : decode (mC 2) 10 = .ok (.putfield 11, 3) := by decide +kernel
theorem cn_2 : (mN 2).cls = "CordLoft$Tape" := by decide +kernel
theorem fq_2_11 : FPut (mN 2).cls (mN 2).name 11 9 0 := ⟨_, rfl, by decide, by rw [cn_2]; exact List.mem_of_getElem? (i := 122) (by decide +kernel), Or.inr ⟨rfl, by decide +kernel, by decide +kernel⟩⟩
theorem d_2_13 : decode (mC 2) 13 = .ok (.return_, 1) := by decide +kernel
theorem d_0_12 : decode (mC 0) 12 = .ok (.putfield 10, 3) := by decide +kernel
theorem cn_0 : (mN 0).cls = "CordLoft" := by decide +kernel
theorem fq_0_10 : FPut (mN 0).cls (mN 0).name 10 11 0 := ⟨_, rfl, by decide, by rw [cn_0]; exact List.mem_of_getElem? (i := 483) (by decide +kernel), Or.inr ⟨rfl, by decide +kernel, by decide +kernel⟩⟩
theorem d_0_15 : decode (mC 0) 15 = .ok (.aload_n 0, 1) := by decide +kernel
theorem d_0_16 : decode (mC 0) 16 = .ok (.new 16, 3) := by decide +kernel
theorem cw1_0_16 : Cond.classLink (mN 0).cls 16 RX10 ∈ lw_tbl := List.mem_of_getElem? (i := 131) (by decide +kernel)
theorem cw2_10 : Cond.instantiable RX10 9 ∈ lw_tbl := List.mem_of_getElem? (i := 132) (by decide +kernel)
theorem cw3_10 : Cond.initialized RX10 ∈ lw_tbl := List.mem_of_getElem? (i := 90) (by decide +kernel)
theorem d_0_19 : decode (mC 0) 19 = .ok (.dup, 1) := by decide +kernel
theorem d_0_20 : decode (mC 0) 20 = .ok (.invokespecial 18, 3) := by decide +kernel
theorem mo_3 : MOK 3 := ⟨List.mem_of_getElem? (i := 135) (by decide +kernel), by decide +kernel, ⟨by decide +kernel, by decide +kernel⟩, List.mem_of_getElem? (i := 90) (by decide +kernel), by decide +kernel⟩
theorem iw_3 : Cond.instanceMethod (mN 3) ∈ lw_tbl := List.mem_of_getElem? (i := 134) (by decide +kernel)
theorem nw_0_18 : Cond.methodLinkNest (mN 0).cls 18 (mN 3) "CordLoft" ∈ lw_tbl := List.mem_of_getElem? (i := 133) (by decide +kernel)
theorem mr_3 : mR 3 = none := by decide +kernel
theorem ml_3 : mL 3 = 1 := by decide +kernel
theorem d_3_0 : decode (mC 3) 0 = .ok (.aload_n 0, 1) := by decide +kernel
theorem d_3_1 : decode (mC 3) 1 = .ok (.invokespecial 3, 3) := by decide +kernel
theorem ow_3 : Cond.methodLink (mN 3).cls 3 Lib.objectInit ∈ lw_tbl := List.mem_of_getElem? (i := 136) (by decide +kernel)
theorem d_3_4 : decode (mC 3) 4 = .ok (.aload_n 0, 1) := by decide +kernel
theorem d_3_5 : decode (mC 3) 5 = .ok (.sipush 1601, 3) := by decide +kernel
theorem si_1601 : (Int16.ofInt 1601).toInt32 = 1601 := by decide +kernel
theorem d_3_8 : decode (mC 3) 8 = .ok (.newarray .int, 2) := by decide +kernel
theorem aw_int : Cond.arrayClass .int ∈ lw_tbl := List.mem_of_getElem? (i := 168) (by decide +kernel)
theorem d_3_10 : decode (mC 3) 10 = .ok (.putfield 11, 3) := by decide +kernel
theorem cn_3 : (mN 3).cls = "CordLoft$Tokens" := by decide +kernel
theorem fq_3_11 : FPut (mN 3).cls (mN 3).name 11 10 0 := ⟨_, rfl, by decide, by rw [cn_3]; exact List.mem_of_getElem? (i := 137) (by decide +kernel), Or.inr ⟨rfl, by decide +kernel, by decide +kernel⟩⟩
theorem d_3_13 : decode (mC 3) 13 = .ok (.aload_n 0, 1) := by decide +kernel
theorem d_3_14 : decode (mC 3) 14 = .ok (.sipush 1601, 3) := by decide +kernel
theorem d_3_17 : decode (mC 3) 17 = .ok (.newarray .int, 2) := by decide +kernel
theorem d_3_19 : decode (mC 3) 19 = .ok (.putfield 17, 3) := by decide +kernel
theorem fq_3_17 : FPut (mN 3).cls (mN 3).name 17 10 1 := ⟨_, rfl, by decide, by rw [cn_3]; exact List.mem_of_getElem? (i := 138) (by decide +kernel), Or.inr ⟨rfl, by decide +kernel, by decide +kernel⟩⟩
theorem d_3_22 : decode (mC 3) 22 = .ok (.aload_n 0, 1) := by decide +kernel
theorem d_3_23 : decode (mC 3) 23 = .ok (.sipush 1601, 3) := by decide +kernel
theorem d_3_26 : decode (mC 3) 26 = .ok (.newarray .long, 2) := by decide +kernel
theorem aw_long : Cond.arrayClass .long ∈ lw_tbl := List.mem_of_getElem? (i := 169) (by decide +kernel)
theorem d_3_28 : decode (mC 3) 28 = .ok (.putfield 20, 3) := by decide +kernel
theorem fq_3_20 : FPut (mN 3).cls (mN 3).name 20 10 2 := ⟨_, rfl, by decide, by rw [cn_3]; exact List.mem_of_getElem? (i := 139) (by decide +kernel), Or.inr ⟨rfl, by decide +kernel, by decide +kernel⟩⟩
theorem d_3_31 : decode (mC 3) 31 = .ok (.return_, 1) := by decide +kernel
theorem d_0_23 : decode (mC 0) 23 = .ok (.putfield 19, 3) := by decide +kernel
theorem fq_0_19 : FPut (mN 0).cls (mN 0).name 19 11 1 := ⟨_, rfl, by decide, by rw [cn_0]; exact List.mem_of_getElem? (i := 484) (by decide +kernel), Or.inr ⟨rfl, by decide +kernel, by decide +kernel⟩⟩
theorem d_0_26 : decode (mC 0) 26 = .ok (.aload_n 0, 1) := by decide +kernel
theorem d_0_27 : decode (mC 0) 27 = .ok (.new 23, 3) := by decide +kernel
theorem cw1_0_23 : Cond.classLink (mN 0).cls 23 RX5 ∈ lw_tbl := List.mem_of_getElem? (i := 170) (by decide +kernel)
theorem cw2_5 : Cond.instantiable RX5 6 ∈ lw_tbl := List.mem_of_getElem? (i := 171) (by decide +kernel)
theorem cw3_5 : Cond.initialized RX5 ∈ lw_tbl := List.mem_of_getElem? (i := 91) (by decide +kernel)
theorem d_0_30 : decode (mC 0) 30 = .ok (.dup, 1) := by decide +kernel
theorem d_0_31 : decode (mC 0) 31 = .ok (.aload_n 0, 1) := by decide +kernel
theorem d_0_32 : decode (mC 0) 32 = .ok (.getfield 19, 3) := by decide +kernel
theorem d_0_35 : decode (mC 0) 35 = .ok (.invokespecial 25, 3) := by decide +kernel
theorem mo_4 : MOK 4 := ⟨List.mem_of_getElem? (i := 174) (by decide +kernel), by decide +kernel, ⟨by decide +kernel, by decide +kernel⟩, List.mem_of_getElem? (i := 91) (by decide +kernel), by decide +kernel⟩
theorem iw_4 : Cond.instanceMethod (mN 4) ∈ lw_tbl := List.mem_of_getElem? (i := 173) (by decide +kernel)
theorem lb_0_25 : LKB 0 25 4 1 := ⟨List.mem_of_getElem? (i := 172) (by decide +kernel), by decide +kernel⟩
theorem mr_4 : mR 4 = none := by decide +kernel
theorem ml_4 : mL 4 = 2 := by decide +kernel
theorem d_4_0 : decode (mC 4) 0 = .ok (.aload_n 0, 1) := by decide +kernel
theorem d_4_1 : decode (mC 4) 1 = .ok (.invokespecial 3, 3) := by decide +kernel
theorem ow_4 : Cond.methodLink (mN 4).cls 3 Lib.objectInit ∈ lw_tbl := List.mem_of_getElem? (i := 175) (by decide +kernel)
theorem d_4_4 : decode (mC 4) 4 = .ok (.aload_n 0, 1) := by decide +kernel
theorem d_4_5 : decode (mC 4) 5 = .ok (.aload_n 1, 1) := by decide +kernel
theorem d_4_6 : decode (mC 4) 6 = .ok (.putfield 9, 3) := by decide +kernel
theorem cn_4 : (mN 4).cls = "CordLoft$Reader" := by decide +kernel
theorem fq_4_9 : FPut (mN 4).cls (mN 4).name 9 5 0 := ⟨_, rfl, by decide, by rw [cn_4]; exact List.mem_of_getElem? (i := 176) (by decide +kernel), Or.inr ⟨rfl, by decide +kernel, by decide +kernel⟩⟩
theorem d_4_9 : decode (mC 4) 9 = .ok (.return_, 1) := by decide +kernel
theorem d_0_38 : decode (mC 0) 38 = .ok (.putfield 28, 3) := by decide +kernel
theorem fq_0_28 : FPut (mN 0).cls (mN 0).name 28 11 2 := ⟨_, rfl, by decide, by rw [cn_0]; exact List.mem_of_getElem? (i := 485) (by decide +kernel), Or.inr ⟨rfl, by decide +kernel, by decide +kernel⟩⟩
theorem d_0_41 : decode (mC 0) 41 = .ok (.aload_n 0, 1) := by decide +kernel
theorem d_0_42 : decode (mC 0) 42 = .ok (.new 32, 3) := by decide +kernel
theorem cw1_0_32 : Cond.classLink (mN 0).cls 32 RX4 ∈ lw_tbl := List.mem_of_getElem? (i := 197) (by decide +kernel)
theorem cw2_4 : Cond.instantiable RX4 17 ∈ lw_tbl := List.mem_of_getElem? (i := 198) (by decide +kernel)
theorem cw3_4 : Cond.initialized RX4 ∈ lw_tbl := List.mem_of_getElem? (i := 92) (by decide +kernel)
theorem k_8 : kd0 8 = 5 := by decide +kernel
theorem d_0_45 : decode (mC 0) 45 = .ok (.dup, 1) := by decide +kernel
theorem d_0_46 : decode (mC 0) 46 = .ok (.invokespecial 34, 3) := by decide +kernel
theorem mo_5 : MOK 5 := ⟨List.mem_of_getElem? (i := 201) (by decide +kernel), by decide +kernel, ⟨by decide +kernel, by decide +kernel⟩, List.mem_of_getElem? (i := 92) (by decide +kernel), by decide +kernel⟩
theorem iw_5 : Cond.instanceMethod (mN 5) ∈ lw_tbl := List.mem_of_getElem? (i := 200) (by decide +kernel)
theorem nw_0_34 : Cond.methodLinkNest (mN 0).cls 34 (mN 5) "CordLoft" ∈ lw_tbl := List.mem_of_getElem? (i := 199) (by decide +kernel)
theorem mr_5 : mR 5 = none := by decide +kernel
theorem ml_5 : mL 5 = 1 := by decide +kernel
theorem d_5_0 : decode (mC 5) 0 = .ok (.aload_n 0, 1) := by decide +kernel
theorem d_5_1 : decode (mC 5) 1 = .ok (.invokespecial 5, 3) := by decide +kernel
theorem ow_5 : Cond.methodLink (mN 5).cls 5 Lib.objectInit ∈ lw_tbl := List.mem_of_getElem? (i := 202) (by decide +kernel)
theorem d_5_4 : decode (mC 5) 4 = .ok (.aload_n 0, 1) := by decide +kernel
theorem d_5_5 : decode (mC 5) 5 = .ok (.bipush 8, 2) := by decide +kernel
theorem d_5_7 : decode (mC 5) 7 = .ok (.newarray .long, 2) := by decide +kernel
theorem k_9 : kd0 9 = 21 := by decide +kernel
theorem l_9 : ln0 9 = 8 := by decide +kernel
theorem d_5_9 : decode (mC 5) 9 = .ok (.putfield 11, 3) := by decide +kernel
theorem cn_5 : (mN 5).cls = "CordLoft$Plan" := by decide +kernel
theorem fq_5_11 : FPut (mN 5).cls (mN 5).name 11 4 2 := ⟨_, rfl, by decide, by rw [cn_5]; exact List.mem_of_getElem? (i := 236) (by decide +kernel), Or.inr ⟨rfl, by decide +kernel, by decide +kernel⟩⟩
theorem d_5_12 : decode (mC 5) 12 = .ok (.aload_n 0, 1) := by decide +kernel
theorem d_5_13 : decode (mC 5) 13 = .ok (.bipush 8, 2) := by decide +kernel
theorem d_5_15 : decode (mC 5) 15 = .ok (.newarray .int, 2) := by decide +kernel
theorem k_10 : kd0 10 = 20 := by decide +kernel
theorem l_10 : ln0 10 = 8 := by decide +kernel
theorem d_5_17 : decode (mC 5) 17 = .ok (.putfield 15, 3) := by decide +kernel
theorem fq_5_15 : FPut (mN 5).cls (mN 5).name 15 4 3 := ⟨_, rfl, by decide, by rw [cn_5]; exact List.mem_of_getElem? (i := 237) (by decide +kernel), Or.inr ⟨rfl, by decide +kernel, by decide +kernel⟩⟩
theorem d_5_20 : decode (mC 5) 20 = .ok (.aload_n 0, 1) := by decide +kernel
theorem d_5_21 : decode (mC 5) 21 = .ok (.bipush 8, 2) := by decide +kernel
theorem d_5_23 : decode (mC 5) 23 = .ok (.newarray .int, 2) := by decide +kernel
theorem k_11 : kd0 11 = 20 := by decide +kernel
theorem l_11 : ln0 11 = 8 := by decide +kernel
theorem d_5_25 : decode (mC 5) 25 = .ok (.putfield 19, 3) := by decide +kernel
theorem fq_5_19 : FPut (mN 5).cls (mN 5).name 19 4 4 := ⟨_, rfl, by decide, by rw [cn_5]; exact List.mem_of_getElem? (i := 240) (by decide +kernel), Or.inr ⟨rfl, by decide +kernel, by decide +kernel⟩⟩
theorem d_5_28 : decode (mC 5) 28 = .ok (.aload_n 0, 1) := by decide +kernel
theorem d_5_29 : decode (mC 5) 29 = .ok (.bipush 8, 2) := by decide +kernel
theorem d_5_31 : decode (mC 5) 31 = .ok (.newarray .int, 2) := by decide +kernel
theorem k_12 : kd0 12 = 20 := by decide +kernel
theorem l_12 : ln0 12 = 8 := by decide +kernel
theorem d_5_33 : decode (mC 5) 33 = .ok (.putfield 22, 3) := by decide +kernel
theorem fq_5_22 : FPut (mN 5).cls (mN 5).name 22 4 5 := ⟨_, rfl, by decide, by rw [cn_5]; exact List.mem_of_getElem? (i := 242) (by decide +kernel), Or.inr ⟨rfl, by decide +kernel, by decide +kernel⟩⟩
theorem d_5_36 : decode (mC 5) 36 = .ok (.aload_n 0, 1) := by decide +kernel
theorem d_5_37 : decode (mC 5) 37 = .ok (.bipush 8, 2) := by decide +kernel
theorem d_5_39 : decode (mC 5) 39 = .ok (.newarray .long, 2) := by decide +kernel
theorem k_13 : kd0 13 = 21 := by decide +kernel
theorem l_13 : ln0 13 = 8 := by decide +kernel
theorem d_5_41 : decode (mC 5) 41 = .ok (.putfield 25, 3) := by decide +kernel
theorem fq_5_25 : FPut (mN 5).cls (mN 5).name 25 4 7 := ⟨_, rfl, by decide, by rw [cn_5]; exact List.mem_of_getElem? (i := 250) (by decide +kernel), Or.inr ⟨rfl, by decide +kernel, by decide +kernel⟩⟩
theorem d_5_44 : decode (mC 5) 44 = .ok (.aload_n 0, 1) := by decide +kernel
theorem d_5_45 : decode (mC 5) 45 = .ok (.bipush 8, 2) := by decide +kernel
theorem d_5_47 : decode (mC 5) 47 = .ok (.newarray .int, 2) := by decide +kernel
theorem k_14 : kd0 14 = 20 := by decide +kernel
theorem l_14 : ln0 14 = 8 := by decide +kernel
theorem d_5_49 : decode (mC 5) 49 = .ok (.putfield 28, 3) := by decide +kernel
theorem fq_5_28 : FPut (mN 5).cls (mN 5).name 28 4 8 := ⟨_, rfl, by decide, by rw [cn_5]; exact List.mem_of_getElem? (i := 251) (by decide +kernel), Or.inr ⟨rfl, by decide +kernel, by decide +kernel⟩⟩
theorem d_5_52 : decode (mC 5) 52 = .ok (.aload_n 0, 1) := by decide +kernel
theorem d_5_53 : decode (mC 5) 53 = .ok (.bipush 8, 2) := by decide +kernel
theorem d_5_55 : decode (mC 5) 55 = .ok (.newarray .int, 2) := by decide +kernel
theorem k_15 : kd0 15 = 20 := by decide +kernel
theorem l_15 : ln0 15 = 8 := by decide +kernel
theorem d_5_57 : decode (mC 5) 57 = .ok (.putfield 31, 3) := by decide +kernel
theorem fq_5_31 : FPut (mN 5).cls (mN 5).name 31 4 9 := ⟨_, rfl, by decide, by rw [cn_5]; exact List.mem_of_getElem? (i := 256) (by decide +kernel), Or.inr ⟨rfl, by decide +kernel, by decide +kernel⟩⟩
theorem d_5_60 : decode (mC 5) 60 = .ok (.aload_n 0, 1) := by decide +kernel
theorem d_5_61 : decode (mC 5) 61 = .ok (.sipush 256, 3) := by decide +kernel
theorem d_5_64 : decode (mC 5) 64 = .ok (.newarray .int, 2) := by decide +kernel
theorem k_16 : kd0 16 = 20 := by decide +kernel
theorem l_16 : ln0 16 = 256 := by decide +kernel
theorem d_5_66 : decode (mC 5) 66 = .ok (.putfield 34, 3) := by decide +kernel
theorem fq_5_34 : FPut (mN 5).cls (mN 5).name 34 4 10 := ⟨_, rfl, by decide, by rw [cn_5]; exact List.mem_of_getElem? (i := 260) (by decide +kernel), Or.inr ⟨rfl, by decide +kernel, by decide +kernel⟩⟩
theorem d_5_69 : decode (mC 5) 69 = .ok (.aload_n 0, 1) := by decide +kernel
theorem d_5_70 : decode (mC 5) 70 = .ok (.new 37, 3) := by decide +kernel
theorem cw1_5_37 : Cond.classLink (mN 5).cls 37 RX2 ∈ lw_tbl := List.mem_of_getElem? (i := 203) (by decide +kernel)
theorem cw2_2 : Cond.instantiable RX2 5 ∈ lw_tbl := List.mem_of_getElem? (i := 204) (by decide +kernel)
theorem cw3_2 : Cond.initialized RX2 ∈ lw_tbl := List.mem_of_getElem? (i := 93) (by decide +kernel)
theorem k_17 : kd0 17 = 3 := by decide +kernel
theorem d_5_73 : decode (mC 5) 73 = .ok (.dup, 1) := by decide +kernel
theorem d_5_74 : decode (mC 5) 74 = .ok (.invokespecial 39, 3) := by decide +kernel
theorem mo_6 : MOK 6 := ⟨List.mem_of_getElem? (i := 207) (by decide +kernel), by decide +kernel, ⟨by decide +kernel, by decide +kernel⟩, List.mem_of_getElem? (i := 93) (by decide +kernel), by decide +kernel⟩
theorem iw_6 : Cond.instanceMethod (mN 6) ∈ lw_tbl := List.mem_of_getElem? (i := 206) (by decide +kernel)
theorem nw_5_39 : Cond.methodLinkNest (mN 5).cls 39 (mN 6) "CordLoft" ∈ lw_tbl := List.mem_of_getElem? (i := 205) (by decide +kernel)
theorem mr_6 : mR 6 = none := by decide +kernel
theorem ml_6 : mL 6 = 1 := by decide +kernel
theorem d_6_0 : decode (mC 6) 0 = .ok (.aload_n 0, 1) := by decide +kernel
theorem d_6_1 : decode (mC 6) 1 = .ok (.invokespecial 3, 3) := by decide +kernel
theorem ow_6 : Cond.methodLink (mN 6).cls 3 Lib.objectInit ∈ lw_tbl := List.mem_of_getElem? (i := 208) (by decide +kernel)
theorem d_6_4 : decode (mC 6) 4 = .ok (.aload_n 0, 1) := by decide +kernel
theorem d_6_5 : decode (mC 6) 5 = .ok (.sipush 270, 3) := by decide +kernel
theorem d_6_8 : decode (mC 6) 8 = .ok (.newarray .int, 2) := by decide +kernel
theorem k_18 : kd0 18 = 20 := by decide +kernel
theorem l_18 : ln0 18 = 270 := by decide +kernel
theorem d_6_10 : decode (mC 6) 10 = .ok (.putfield 9, 3) := by decide +kernel
theorem cn_6 : (mN 6).cls = "CordLoft$Formula" := by decide +kernel
theorem fq_6_9 : FPut (mN 6).cls (mN 6).name 9 2 0 := ⟨_, rfl, by decide, by rw [cn_6]; exact List.mem_of_getElem? (i := 209) (by decide +kernel), Or.inr ⟨rfl, by decide +kernel, by decide +kernel⟩⟩
theorem d_6_13 : decode (mC 6) 13 = .ok (.aload_n 0, 1) := by decide +kernel
theorem d_6_14 : decode (mC 6) 14 = .ok (.bipush 31, 2) := by decide +kernel
theorem bi_31 : (Int8.ofInt 31).toInt32 = 31 := by decide +kernel
theorem d_6_16 : decode (mC 6) 16 = .ok (.newarray .int, 2) := by decide +kernel
theorem k_19 : kd0 19 = 20 := by decide +kernel
theorem l_19 : ln0 19 = 31 := by decide +kernel
theorem d_6_18 : decode (mC 6) 18 = .ok (.putfield 13, 3) := by decide +kernel
theorem fq_6_13 : FPut (mN 6).cls (mN 6).name 13 2 2 := ⟨_, rfl, by decide, by rw [cn_6]; exact List.mem_of_getElem? (i := 211) (by decide +kernel), Or.inr ⟨rfl, by decide +kernel, by decide +kernel⟩⟩
theorem d_6_21 : decode (mC 6) 21 = .ok (.aload_n 0, 1) := by decide +kernel
theorem d_6_22 : decode (mC 6) 22 = .ok (.bipush 6, 2) := by decide +kernel
theorem d_6_24 : decode (mC 6) 24 = .ok (.newarray .int, 2) := by decide +kernel
theorem k_20 : kd0 20 = 20 := by decide +kernel
theorem l_20 : ln0 20 = 6 := by decide +kernel
theorem d_6_26 : decode (mC 6) 26 = .ok (.putfield 16, 3) := by decide +kernel
theorem fq_6_16 : FPut (mN 6).cls (mN 6).name 16 2 3 := ⟨_, rfl, by decide, by rw [cn_6]; exact List.mem_of_getElem? (i := 212) (by decide +kernel), Or.inr ⟨rfl, by decide +kernel, by decide +kernel⟩⟩
theorem d_6_29 : decode (mC 6) 29 = .ok (.return_, 1) := by decide +kernel
theorem d_5_77 : decode (mC 5) 77 = .ok (.putfield 40, 3) := by decide +kernel
theorem fq_5_40 : FPut (mN 5).cls (mN 5).name 40 4 11 := ⟨_, rfl, by decide, by rw [cn_5]; exact List.mem_of_getElem? (i := 263) (by decide +kernel), Or.inr ⟨rfl, by decide +kernel, by decide +kernel⟩⟩
theorem d_5_80 : decode (mC 5) 80 = .ok (.aload_n 0, 1) := by decide +kernel
theorem d_5_81 : decode (mC 5) 81 = .ok (.sipush 128, 3) := by decide +kernel
theorem d_5_84 : decode (mC 5) 84 = .ok (.newarray .int, 2) := by decide +kernel
theorem k_21 : kd0 21 = 20 := by decide +kernel
theorem l_21 : ln0 21 = 128 := by decide +kernel
theorem d_5_86 : decode (mC 5) 86 = .ok (.putfield 44, 3) := by decide +kernel
theorem fq_5_44 : FPut (mN 5).cls (mN 5).name 44 4 12 := ⟨_, rfl, by decide, by rw [cn_5]; exact List.mem_of_getElem? (i := 266) (by decide +kernel), Or.inr ⟨rfl, by decide +kernel, by decide +kernel⟩⟩
theorem d_5_89 : decode (mC 5) 89 = .ok (.aload_n 0, 1) := by decide +kernel
theorem d_5_90 : decode (mC 5) 90 = .ok (.sipush 128, 3) := by decide +kernel
theorem d_5_93 : decode (mC 5) 93 = .ok (.newarray .boolean, 2) := by decide +kernel
theorem aw_boolean : Cond.arrayClass .boolean ∈ lw_tbl := List.mem_of_getElem? (i := 314) (by decide +kernel)
theorem k_22 : kd0 22 = 23 := by decide +kernel
theorem l_22 : ln0 22 = 128 := by decide +kernel
theorem d_5_95 : decode (mC 5) 95 = .ok (.putfield 47, 3) := by decide +kernel
theorem fq_5_47 : FPut (mN 5).cls (mN 5).name 47 4 13 := ⟨_, rfl, by decide, by rw [cn_5]; exact List.mem_of_getElem? (i := 267) (by decide +kernel), Or.inr ⟨rfl, by decide +kernel, by decide +kernel⟩⟩
theorem d_5_98 : decode (mC 5) 98 = .ok (.return_, 1) := by decide +kernel
theorem d_0_49 : decode (mC 0) 49 = .ok (.putfield 35, 3) := by decide +kernel
theorem fq_0_35 : FPut (mN 0).cls (mN 0).name 35 11 3 := ⟨_, rfl, by decide, by rw [cn_0]; exact List.mem_of_getElem? (i := 486) (by decide +kernel), Or.inl rfl⟩
theorem d_0_52 : decode (mC 0) 52 = .ok (.aload_n 0, 1) := by decide +kernel
theorem d_0_53 : decode (mC 0) 53 = .ok (.new 32, 3) := by decide +kernel
theorem k_23 : kd0 23 = 5 := by decide +kernel
theorem d_0_56 : decode (mC 0) 56 = .ok (.dup, 1) := by decide +kernel
theorem d_0_57 : decode (mC 0) 57 = .ok (.invokespecial 34, 3) := by decide +kernel
theorem k_24 : kd0 24 = 21 := by decide +kernel
theorem l_24 : ln0 24 = 8 := by decide +kernel
theorem k_25 : kd0 25 = 20 := by decide +kernel
theorem l_25 : ln0 25 = 8 := by decide +kernel
theorem k_26 : kd0 26 = 20 := by decide +kernel
theorem l_26 : ln0 26 = 8 := by decide +kernel
theorem k_27 : kd0 27 = 20 := by decide +kernel
theorem l_27 : ln0 27 = 8 := by decide +kernel
theorem k_28 : kd0 28 = 21 := by decide +kernel
theorem l_28 : ln0 28 = 8 := by decide +kernel
theorem k_29 : kd0 29 = 20 := by decide +kernel
theorem l_29 : ln0 29 = 8 := by decide +kernel
theorem k_30 : kd0 30 = 20 := by decide +kernel
theorem l_30 : ln0 30 = 8 := by decide +kernel
theorem k_31 : kd0 31 = 20 := by decide +kernel
theorem l_31 : ln0 31 = 256 := by decide +kernel
theorem k_32 : kd0 32 = 3 := by decide +kernel
theorem k_33 : kd0 33 = 20 := by decide +kernel
theorem l_33 : ln0 33 = 270 := by decide +kernel
theorem k_34 : kd0 34 = 20 := by decide +kernel
theorem l_34 : ln0 34 = 31 := by decide +kernel
theorem k_35 : kd0 35 = 20 := by decide +kernel
theorem l_35 : ln0 35 = 6 := by decide +kernel
theorem k_36 : kd0 36 = 20 := by decide +kernel
theorem l_36 : ln0 36 = 128 := by decide +kernel
theorem k_37 : kd0 37 = 23 := by decide +kernel
theorem l_37 : ln0 37 = 128 := by decide +kernel
theorem d_0_60 : decode (mC 0) 60 = .ok (.putfield 39, 3) := by decide +kernel
theorem fq_0_39 : FPut (mN 0).cls (mN 0).name 39 11 4 := ⟨_, rfl, by decide, by rw [cn_0]; exact List.mem_of_getElem? (i := 487) (by decide +kernel), Or.inl rfl⟩
theorem d_0_63 : decode (mC 0) 63 = .ok (.aload_n 0, 1) := by decide +kernel
theorem d_0_64 : decode (mC 0) 64 = .ok (.new 42, 3) := by decide +kernel
theorem cw1_0_42 : Cond.classLink (mN 0).cls 42 RX0 ∈ lw_tbl := List.mem_of_getElem? (i := 315) (by decide +kernel)
theorem cw2_0 : Cond.instantiable RX0 3 ∈ lw_tbl := List.mem_of_getElem? (i := 316) (by decide +kernel)
theorem cw3_0 : Cond.initialized RX0 ∈ lw_tbl := List.mem_of_getElem? (i := 94) (by decide +kernel)
theorem d_0_67 : decode (mC 0) 67 = .ok (.dup, 1) := by decide +kernel
theorem d_0_68 : decode (mC 0) 68 = .ok (.invokespecial 44, 3) := by decide +kernel
theorem mo_7 : MOK 7 := ⟨List.mem_of_getElem? (i := 319) (by decide +kernel), by decide +kernel, ⟨by decide +kernel, by decide +kernel⟩, List.mem_of_getElem? (i := 94) (by decide +kernel), by decide +kernel⟩
theorem iw_7 : Cond.instanceMethod (mN 7) ∈ lw_tbl := List.mem_of_getElem? (i := 318) (by decide +kernel)
theorem lb_0_44 : LKB 0 44 7 0 := ⟨List.mem_of_getElem? (i := 317) (by decide +kernel), by decide +kernel⟩
theorem mr_7 : mR 7 = none := by decide +kernel
theorem ml_7 : mL 7 = 2 := by decide +kernel
theorem d_7_0 : decode (mC 7) 0 = .ok (.aload_n 0, 1) := by decide +kernel
theorem d_7_1 : decode (mC 7) 1 = .ok (.invokespecial 1, 3) := by decide +kernel
theorem ow_7 : Cond.methodLink (mN 7).cls 1 Lib.objectInit ∈ lw_tbl := List.mem_of_getElem? (i := 320) (by decide +kernel)
theorem d_7_4 : decode (mC 7) 4 = .ok (.aload_n 0, 1) := by decide +kernel
theorem d_7_5 : decode (mC 7) 5 = .ok (.bipush 41, 2) := by decide +kernel
theorem d_7_7 : decode (mC 7) 7 = .ok (.anewarray 9, 3) := by decide +kernel
theorem cw1_7_9 : Cond.classLink (mN 7).cls 9 "CordLoft$State" ∈ lw_tbl := List.mem_of_getElem? (i := 321) (by decide +kernel)
theorem d_7_10 : decode (mC 7) 10 = .ok (.putfield 11, 3) := by decide +kernel
theorem cn_7 : (mN 7).cls = "CordLoft$Acts" := by decide +kernel
theorem fq_7_11 : FPut (mN 7).cls (mN 7).name 11 0 0 := ⟨_, rfl, by decide, by rw [cn_7]; exact List.mem_of_getElem? (i := 353) (by decide +kernel), Or.inr ⟨rfl, by decide +kernel, by decide +kernel⟩⟩
theorem d_7_13 : decode (mC 7) 13 = .ok (.iconst 0, 1) := by decide +kernel
theorem d_7_14 : decode (mC 7) 14 = .ok (.istore_n 1, 1) := by decide +kernel
theorem d_7_15 : decode (mC 7) 15 = .ok (.iload_n 1, 1) := by decide +kernel
theorem d_7_16 : decode (mC 7) 16 = .ok (.bipush 40, 2) := by decide +kernel
theorem d_7_18 : decode (mC 7) 18 = .ok (.if_icmp .gt 22, 3) := by decide +kernel
theorem d_7_21 : decode (mC 7) 21 = .ok (.aload_n 0, 1) := by decide +kernel
theorem d_7_22 : decode (mC 7) 22 = .ok (.getfield 11, 3) := by decide +kernel
theorem d_7_25 : decode (mC 7) 25 = .ok (.iload_n 1, 1) := by decide +kernel
theorem d_7_26 : decode (mC 7) 26 = .ok (.new 9, 3) := by decide +kernel
theorem cw2_8 : Cond.instantiable RX8 5 ∈ lw_tbl := List.mem_of_getElem? (i := 323) (by decide +kernel)
theorem cw3_8 : Cond.initialized RX8 ∈ lw_tbl := List.mem_of_getElem? (i := 95) (by decide +kernel)
theorem k_40 : kd0 40 = 9 := by decide +kernel
theorem d_7_29 : decode (mC 7) 29 = .ok (.dup, 1) := by decide +kernel
theorem d_7_30 : decode (mC 7) 30 = .ok (.invokespecial 15, 3) := by decide +kernel
theorem mo_8 : MOK 8 := ⟨List.mem_of_getElem? (i := 326) (by decide +kernel), by decide +kernel, ⟨by decide +kernel, by decide +kernel⟩, List.mem_of_getElem? (i := 95) (by decide +kernel), by decide +kernel⟩
theorem iw_8 : Cond.instanceMethod (mN 8) ∈ lw_tbl := List.mem_of_getElem? (i := 325) (by decide +kernel)
theorem nw_7_15 : Cond.methodLinkNest (mN 7).cls 15 (mN 8) "CordLoft" ∈ lw_tbl := List.mem_of_getElem? (i := 324) (by decide +kernel)
theorem mr_8 : mR 8 = none := by decide +kernel
theorem ml_8 : mL 8 = 1 := by decide +kernel
theorem d_8_0 : decode (mC 8) 0 = .ok (.aload_n 0, 1) := by decide +kernel
theorem d_8_1 : decode (mC 8) 1 = .ok (.invokespecial 1, 3) := by decide +kernel
theorem ow_8 : Cond.methodLink (mN 8).cls 1 Lib.objectInit ∈ lw_tbl := List.mem_of_getElem? (i := 327) (by decide +kernel)
theorem d_8_4 : decode (mC 8) 4 = .ok (.return_, 1) := by decide +kernel
theorem d_7_33 : decode (mC 7) 33 = .ok (.aastore, 1) := by decide +kernel
theorem d_7_34 : decode (mC 7) 34 = .ok (.iinc 1 1, 3) := by decide +kernel
theorem d_7_37 : decode (mC 7) 37 = .ok (.goto (-22), 3) := by decide +kernel
theorem k_41 : kd0 41 = 9 := by decide +kernel
theorem k_42 : kd0 42 = 9 := by decide +kernel
theorem k_43 : kd0 43 = 9 := by decide +kernel
theorem k_44 : kd0 44 = 9 := by decide +kernel
theorem k_45 : kd0 45 = 9 := by decide +kernel
theorem k_46 : kd0 46 = 9 := by decide +kernel
theorem k_47 : kd0 47 = 9 := by decide +kernel
theorem k_48 : kd0 48 = 9 := by decide +kernel
theorem k_49 : kd0 49 = 9 := by decide +kernel
theorem k_50 : kd0 50 = 9 := by decide +kernel
theorem k_51 : kd0 51 = 9 := by decide +kernel
theorem k_52 : kd0 52 = 9 := by decide +kernel
theorem k_53 : kd0 53 = 9 := by decide +kernel
theorem k_54 : kd0 54 = 9 := by decide +kernel
theorem k_55 : kd0 55 = 9 := by decide +kernel
theorem k_56 : kd0 56 = 9 := by decide +kernel
theorem k_57 : kd0 57 = 9 := by decide +kernel
theorem k_58 : kd0 58 = 9 := by decide +kernel
theorem k_59 : kd0 59 = 9 := by decide +kernel
theorem k_60 : kd0 60 = 9 := by decide +kernel
theorem k_61 : kd0 61 = 9 := by decide +kernel
theorem k_62 : kd0 62 = 9 := by decide +kernel
theorem k_63 : kd0 63 = 9 := by decide +kernel
theorem k_64 : kd0 64 = 9 := by decide +kernel
theorem k_65 : kd0 65 = 9 := by decide +kernel
theorem k_66 : kd0 66 = 9 := by decide +kernel
theorem k_67 : kd0 67 = 9 := by decide +kernel
theorem k_68 : kd0 68 = 9 := by decide +kernel
theorem k_69 : kd0 69 = 9 := by decide +kernel
theorem k_70 : kd0 70 = 9 := by decide +kernel
theorem k_71 : kd0 71 = 9 := by decide +kernel
theorem k_72 : kd0 72 = 9 := by decide +kernel
theorem k_73 : kd0 73 = 9 := by decide +kernel
theorem k_74 : kd0 74 = 9 := by decide +kernel
theorem k_75 : kd0 75 = 9 := by decide +kernel
theorem k_76 : kd0 76 = 9 := by decide +kernel
theorem k_77 : kd0 77 = 9 := by decide +kernel
theorem k_78 : kd0 78 = 9 := by decide +kernel
theorem k_79 : kd0 79 = 9 := by decide +kernel
theorem k_80 : kd0 80 = 9 := by decide +kernel
theorem d_7_40 : decode (mC 7) 40 = .ok (.return_, 1) := by decide +kernel
theorem d_0_71 : decode (mC 0) 71 = .ok (.putfield 45, 3) := by decide +kernel
theorem fq_0_45 : FPut (mN 0).cls (mN 0).name 45 11 5 := ⟨_, rfl, by decide, by rw [cn_0]; exact List.mem_of_getElem? (i := 488) (by decide +kernel), Or.inr ⟨rfl, by decide +kernel, by decide +kernel⟩⟩
theorem d_0_74 : decode (mC 0) 74 = .ok (.aload_n 0, 1) := by decide +kernel
theorem d_0_75 : decode (mC 0) 75 = .ok (.new 49, 3) := by decide +kernel
theorem cw1_0_49 : Cond.classLink (mN 0).cls 49 RX8 ∈ lw_tbl := List.mem_of_getElem? (i := 365) (by decide +kernel)
theorem d_0_78 : decode (mC 0) 78 = .ok (.dup, 1) := by decide +kernel
theorem d_0_79 : decode (mC 0) 79 = .ok (.invokespecial 51, 3) := by decide +kernel
theorem nw_0_51 : Cond.methodLinkNest (mN 0).cls 51 (mN 8) "CordLoft" ∈ lw_tbl := List.mem_of_getElem? (i := 366) (by decide +kernel)
theorem d_0_82 : decode (mC 0) 82 = .ok (.putfield 52, 3) := by decide +kernel
theorem fq_0_52 : FPut (mN 0).cls (mN 0).name 52 11 6 := ⟨_, rfl, by decide, by rw [cn_0]; exact List.mem_of_getElem? (i := 489) (by decide +kernel), Or.inr ⟨rfl, by decide +kernel, by decide +kernel⟩⟩
theorem d_0_85 : decode (mC 0) 85 = .ok (.aload_n 0, 1) := by decide +kernel
theorem d_0_86 : decode (mC 0) 86 = .ok (.iconst 3, 1) := by decide +kernel
theorem d_0_87 : decode (mC 0) 87 = .ok (.anewarray 49, 3) := by decide +kernel
theorem d_0_90 : decode (mC 0) 90 = .ok (.putfield 56, 3) := by decide +kernel
theorem fq_0_56 : FPut (mN 0).cls (mN 0).name 56 11 7 := ⟨_, rfl, by decide, by rw [cn_0]; exact List.mem_of_getElem? (i := 490) (by decide +kernel), Or.inr ⟨rfl, by decide +kernel, by decide +kernel⟩⟩
theorem d_0_93 : decode (mC 0) 93 = .ok (.iconst 0, 1) := by decide +kernel
theorem d_0_94 : decode (mC 0) 94 = .ok (.istore_n 1, 1) := by decide +kernel
theorem d_0_95 : decode (mC 0) 95 = .ok (.iload_n 1, 1) := by decide +kernel
theorem d_0_96 : decode (mC 0) 96 = .ok (.iconst 3, 1) := by decide +kernel
theorem d_0_97 : decode (mC 0) 97 = .ok (.if_icmp .ge 22, 3) := by decide +kernel
theorem d_0_100 : decode (mC 0) 100 = .ok (.aload_n 0, 1) := by decide +kernel
theorem d_0_101 : decode (mC 0) 101 = .ok (.getfield 56, 3) := by decide +kernel
theorem d_0_104 : decode (mC 0) 104 = .ok (.iload_n 1, 1) := by decide +kernel
theorem d_0_105 : decode (mC 0) 105 = .ok (.new 49, 3) := by decide +kernel
theorem k_83 : kd0 83 = 9 := by decide +kernel
theorem d_0_108 : decode (mC 0) 108 = .ok (.dup, 1) := by decide +kernel
theorem d_0_109 : decode (mC 0) 109 = .ok (.invokespecial 51, 3) := by decide +kernel
theorem d_0_112 : decode (mC 0) 112 = .ok (.aastore, 1) := by decide +kernel
theorem d_0_113 : decode (mC 0) 113 = .ok (.iinc 1 1, 3) := by decide +kernel
theorem d_0_116 : decode (mC 0) 116 = .ok (.goto (-21), 3) := by decide +kernel
theorem k_84 : kd0 84 = 9 := by decide +kernel
theorem k_85 : kd0 85 = 9 := by decide +kernel
theorem d_0_119 : decode (mC 0) 119 = .ok (.aload_n 0, 1) := by decide +kernel
theorem d_0_120 : decode (mC 0) 120 = .ok (.iconst 0, 1) := by decide +kernel
theorem d_0_121 : decode (mC 0) 121 = .ok (.putfield 60, 3) := by decide +kernel
theorem fq_0_60 : FPut (mN 0).cls (mN 0).name 60 11 8 := ⟨_, rfl, by decide, by rw [cn_0]; exact List.mem_of_getElem? (i := 491) (by decide +kernel), Or.inl rfl⟩
theorem d_0_124 : decode (mC 0) 124 = .ok (.aload_n 0, 1) := by decide +kernel
theorem d_0_125 : decode (mC 0) 125 = .ok (.new 64, 3) := by decide +kernel
theorem cw1_0_64 : Cond.classLink (mN 0).cls 64 RX6 ∈ lw_tbl := List.mem_of_getElem? (i := 367) (by decide +kernel)
theorem cw2_6 : Cond.instantiable RX6 7 ∈ lw_tbl := List.mem_of_getElem? (i := 368) (by decide +kernel)
theorem cw3_6 : Cond.initialized RX6 ∈ lw_tbl := List.mem_of_getElem? (i := 96) (by decide +kernel)
theorem d_0_128 : decode (mC 0) 128 = .ok (.dup, 1) := by decide +kernel
theorem d_0_129 : decode (mC 0) 129 = .ok (.invokespecial 66, 3) := by decide +kernel
theorem mo_9 : MOK 9 := ⟨List.mem_of_getElem? (i := 371) (by decide +kernel), by decide +kernel, ⟨by decide +kernel, by decide +kernel⟩, List.mem_of_getElem? (i := 96) (by decide +kernel), by decide +kernel⟩
theorem iw_9 : Cond.instanceMethod (mN 9) ∈ lw_tbl := List.mem_of_getElem? (i := 370) (by decide +kernel)
theorem nw_0_66 : Cond.methodLinkNest (mN 0).cls 66 (mN 9) "CordLoft" ∈ lw_tbl := List.mem_of_getElem? (i := 369) (by decide +kernel)
theorem mr_9 : mR 9 = none := by decide +kernel
theorem ml_9 : mL 9 = 1 := by decide +kernel
theorem d_9_0 : decode (mC 9) 0 = .ok (.aload_n 0, 1) := by decide +kernel
theorem d_9_1 : decode (mC 9) 1 = .ok (.invokespecial 3, 3) := by decide +kernel
theorem ow_9 : Cond.methodLink (mN 9).cls 3 Lib.objectInit ∈ lw_tbl := List.mem_of_getElem? (i := 372) (by decide +kernel)
theorem d_9_4 : decode (mC 9) 4 = .ok (.aload_n 0, 1) := by decide +kernel
theorem d_9_5 : decode (mC 9) 5 = .ok (.new 9, 3) := by decide +kernel
theorem cw1_9_9 : Cond.classLink (mN 9).cls 9 RX1 ∈ lw_tbl := List.mem_of_getElem? (i := 373) (by decide +kernel)
theorem cw2_1 : Cond.instantiable RX1 2 ∈ lw_tbl := List.mem_of_getElem? (i := 374) (by decide +kernel)
theorem cw3_1 : Cond.initialized RX1 ∈ lw_tbl := List.mem_of_getElem? (i := 97) (by decide +kernel)
theorem d_9_8 : decode (mC 9) 8 = .ok (.dup, 1) := by decide +kernel
theorem d_9_9 : decode (mC 9) 9 = .ok (.invokespecial 11, 3) := by decide +kernel
theorem mo_10 : MOK 10 := ⟨List.mem_of_getElem? (i := 377) (by decide +kernel), by decide +kernel, ⟨by decide +kernel, by decide +kernel⟩, List.mem_of_getElem? (i := 97) (by decide +kernel), by decide +kernel⟩
theorem iw_10 : Cond.instanceMethod (mN 10) ∈ lw_tbl := List.mem_of_getElem? (i := 376) (by decide +kernel)
theorem nw_9_11 : Cond.methodLinkNest (mN 9).cls 11 (mN 10) "CordLoft" ∈ lw_tbl := List.mem_of_getElem? (i := 375) (by decide +kernel)
theorem mr_10 : mR 10 = none := by decide +kernel
theorem ml_10 : mL 10 = 1 := by decide +kernel
theorem d_10_0 : decode (mC 10) 0 = .ok (.aload_n 0, 1) := by decide +kernel
theorem d_10_1 : decode (mC 10) 1 = .ok (.invokespecial 3, 3) := by decide +kernel
theorem ow_10 : Cond.methodLink (mN 10).cls 3 Lib.objectInit ∈ lw_tbl := List.mem_of_getElem? (i := 378) (by decide +kernel)
theorem d_10_4 : decode (mC 10) 4 = .ok (.return_, 1) := by decide +kernel
theorem d_9_12 : decode (mC 9) 12 = .ok (.putfield 12, 3) := by decide +kernel
theorem cn_9 : (mN 9).cls = "CordLoft$Sets" := by decide +kernel
theorem fq_9_12 : FPut (mN 9).cls (mN 9).name 12 6 0 := ⟨_, rfl, by decide, by rw [cn_9]; exact List.mem_of_getElem? (i := 388) (by decide +kernel), Or.inr ⟨rfl, by decide +kernel, by decide +kernel⟩⟩
theorem d_9_15 : decode (mC 9) 15 = .ok (.aload_n 0, 1) := by decide +kernel
theorem d_9_16 : decode (mC 9) 16 = .ok (.sipush 256, 3) := by decide +kernel
theorem d_9_19 : decode (mC 9) 19 = .ok (.newarray .int, 2) := by decide +kernel
theorem d_9_21 : decode (mC 9) 21 = .ok (.putfield 20, 3) := by decide +kernel
theorem fq_9_20 : FPut (mN 9).cls (mN 9).name 20 6 1 := ⟨_, rfl, by decide, by rw [cn_9]; exact List.mem_of_getElem? (i := 389) (by decide +kernel), Or.inr ⟨rfl, by decide +kernel, by decide +kernel⟩⟩
theorem d_9_24 : decode (mC 9) 24 = .ok (.aload_n 0, 1) := by decide +kernel
theorem d_9_25 : decode (mC 9) 25 = .ok (.sipush 256, 3) := by decide +kernel
theorem d_9_28 : decode (mC 9) 28 = .ok (.newarray .int, 2) := by decide +kernel
theorem d_9_30 : decode (mC 9) 30 = .ok (.putfield 24, 3) := by decide +kernel
theorem fq_9_24 : FPut (mN 9).cls (mN 9).name 24 6 2 := ⟨_, rfl, by decide, by rw [cn_9]; exact List.mem_of_getElem? (i := 390) (by decide +kernel), Or.inr ⟨rfl, by decide +kernel, by decide +kernel⟩⟩
theorem d_9_33 : decode (mC 9) 33 = .ok (.aload_n 0, 1) := by decide +kernel
theorem d_9_34 : decode (mC 9) 34 = .ok (.sipush 256, 3) := by decide +kernel
theorem d_9_37 : decode (mC 9) 37 = .ok (.newarray .int, 2) := by decide +kernel
theorem d_9_39 : decode (mC 9) 39 = .ok (.putfield 27, 3) := by decide +kernel
theorem fq_9_27 : FPut (mN 9).cls (mN 9).name 27 6 3 := ⟨_, rfl, by decide, by rw [cn_9]; exact List.mem_of_getElem? (i := 391) (by decide +kernel), Or.inr ⟨rfl, by decide +kernel, by decide +kernel⟩⟩
theorem d_9_42 : decode (mC 9) 42 = .ok (.aload_n 0, 1) := by decide +kernel
theorem d_9_43 : decode (mC 9) 43 = .ok (.bipush 8, 2) := by decide +kernel
theorem d_9_45 : decode (mC 9) 45 = .ok (.newarray .int, 2) := by decide +kernel
theorem d_9_47 : decode (mC 9) 47 = .ok (.putfield 30, 3) := by decide +kernel
theorem fq_9_30 : FPut (mN 9).cls (mN 9).name 30 6 4 := ⟨_, rfl, by decide, by rw [cn_9]; exact List.mem_of_getElem? (i := 392) (by decide +kernel), Or.inr ⟨rfl, by decide +kernel, by decide +kernel⟩⟩
theorem d_9_50 : decode (mC 9) 50 = .ok (.return_, 1) := by decide +kernel
theorem d_0_132 : decode (mC 0) 132 = .ok (.putfield 67, 3) := by decide +kernel
theorem fq_0_67 : FPut (mN 0).cls (mN 0).name 67 11 9 := ⟨_, rfl, by decide, by rw [cn_0]; exact List.mem_of_getElem? (i := 492) (by decide +kernel), Or.inr ⟨rfl, by decide +kernel, by decide +kernel⟩⟩
theorem d_0_135 : decode (mC 0) 135 = .ok (.aload_n 0, 1) := by decide +kernel
theorem d_0_136 : decode (mC 0) 136 = .ok (.new 71, 3) := by decide +kernel
theorem cw1_0_71 : Cond.classLink (mN 0).cls 71 RX3 ∈ lw_tbl := List.mem_of_getElem? (i := 412) (by decide +kernel)
theorem cw2_3 : Cond.instantiable RX3 8 ∈ lw_tbl := List.mem_of_getElem? (i := 413) (by decide +kernel)
theorem cw3_3 : Cond.initialized RX3 ∈ lw_tbl := List.mem_of_getElem? (i := 98) (by decide +kernel)
theorem d_0_139 : decode (mC 0) 139 = .ok (.dup, 1) := by decide +kernel
theorem d_0_140 : decode (mC 0) 140 = .ok (.invokespecial 73, 3) := by decide +kernel
theorem mo_11 : MOK 11 := ⟨List.mem_of_getElem? (i := 416) (by decide +kernel), by decide +kernel, ⟨by decide +kernel, by decide +kernel⟩, List.mem_of_getElem? (i := 98) (by decide +kernel), by decide +kernel⟩
theorem iw_11 : Cond.instanceMethod (mN 11) ∈ lw_tbl := List.mem_of_getElem? (i := 415) (by decide +kernel)
theorem nw_0_73 : Cond.methodLinkNest (mN 0).cls 73 (mN 11) "CordLoft" ∈ lw_tbl := List.mem_of_getElem? (i := 414) (by decide +kernel)
theorem mr_11 : mR 11 = none := by decide +kernel
theorem ml_11 : mL 11 = 1 := by decide +kernel
theorem d_11_0 : decode (mC 11) 0 = .ok (.aload_n 0, 1) := by decide +kernel
theorem d_11_1 : decode (mC 11) 1 = .ok (.invokespecial 3, 3) := by decide +kernel
theorem ow_11 : Cond.methodLink (mN 11).cls 3 Lib.objectInit ∈ lw_tbl := List.mem_of_getElem? (i := 417) (by decide +kernel)
theorem d_11_4 : decode (mC 11) 4 = .ok (.aload_n 0, 1) := by decide +kernel
theorem d_11_5 : decode (mC 11) 5 = .ok (.sipush 256, 3) := by decide +kernel
theorem d_11_8 : decode (mC 11) 8 = .ok (.newarray .int, 2) := by decide +kernel
theorem d_11_10 : decode (mC 11) 10 = .ok (.putfield 11, 3) := by decide +kernel
theorem cn_11 : (mN 11).cls = "CordLoft$Paths" := by decide +kernel
theorem fq_11_11 : FPut (mN 11).cls (mN 11).name 11 3 0 := ⟨_, rfl, by decide, by rw [cn_11]; exact List.mem_of_getElem? (i := 418) (by decide +kernel), Or.inr ⟨rfl, by decide +kernel, by decide +kernel⟩⟩
theorem d_11_13 : decode (mC 11) 13 = .ok (.aload_n 0, 1) := by decide +kernel
theorem d_11_14 : decode (mC 11) 14 = .ok (.sipush 256, 3) := by decide +kernel
theorem d_11_17 : decode (mC 11) 17 = .ok (.newarray .int, 2) := by decide +kernel
theorem d_11_19 : decode (mC 11) 19 = .ok (.putfield 17, 3) := by decide +kernel
theorem fq_11_17 : FPut (mN 11).cls (mN 11).name 17 3 1 := ⟨_, rfl, by decide, by rw [cn_11]; exact List.mem_of_getElem? (i := 419) (by decide +kernel), Or.inr ⟨rfl, by decide +kernel, by decide +kernel⟩⟩
theorem d_11_22 : decode (mC 11) 22 = .ok (.aload_n 0, 1) := by decide +kernel
theorem d_11_23 : decode (mC 11) 23 = .ok (.sipush 256, 3) := by decide +kernel
theorem d_11_26 : decode (mC 11) 26 = .ok (.newarray .int, 2) := by decide +kernel
theorem d_11_28 : decode (mC 11) 28 = .ok (.putfield 20, 3) := by decide +kernel
theorem fq_11_20 : FPut (mN 11).cls (mN 11).name 20 3 2 := ⟨_, rfl, by decide, by rw [cn_11]; exact List.mem_of_getElem? (i := 420) (by decide +kernel), Or.inr ⟨rfl, by decide +kernel, by decide +kernel⟩⟩
theorem d_11_31 : decode (mC 11) 31 = .ok (.aload_n 0, 1) := by decide +kernel
theorem d_11_32 : decode (mC 11) 32 = .ok (.sipush 256, 3) := by decide +kernel
theorem d_11_35 : decode (mC 11) 35 = .ok (.newarray .int, 2) := by decide +kernel
theorem d_11_37 : decode (mC 11) 37 = .ok (.putfield 23, 3) := by decide +kernel
theorem fq_11_23 : FPut (mN 11).cls (mN 11).name 23 3 3 := ⟨_, rfl, by decide, by rw [cn_11]; exact List.mem_of_getElem? (i := 421) (by decide +kernel), Or.inr ⟨rfl, by decide +kernel, by decide +kernel⟩⟩
theorem d_11_40 : decode (mC 11) 40 = .ok (.aload_n 0, 1) := by decide +kernel
theorem d_11_41 : decode (mC 11) 41 = .ok (.sipush 256, 3) := by decide +kernel
theorem d_11_44 : decode (mC 11) 44 = .ok (.newarray .int, 2) := by decide +kernel
theorem d_11_46 : decode (mC 11) 46 = .ok (.putfield 26, 3) := by decide +kernel
theorem fq_11_26 : FPut (mN 11).cls (mN 11).name 26 3 5 := ⟨_, rfl, by decide, by rw [cn_11]; exact List.mem_of_getElem? (i := 423) (by decide +kernel), Or.inr ⟨rfl, by decide +kernel, by decide +kernel⟩⟩
theorem d_11_49 : decode (mC 11) 49 = .ok (.aload_n 0, 1) := by decide +kernel
theorem d_11_50 : decode (mC 11) 50 = .ok (.sipush 256, 3) := by decide +kernel
theorem d_11_53 : decode (mC 11) 53 = .ok (.newarray .int, 2) := by decide +kernel
theorem d_11_55 : decode (mC 11) 55 = .ok (.putfield 29, 3) := by decide +kernel
theorem fq_11_29 : FPut (mN 11).cls (mN 11).name 29 3 6 := ⟨_, rfl, by decide, by rw [cn_11]; exact List.mem_of_getElem? (i := 425) (by decide +kernel), Or.inr ⟨rfl, by decide +kernel, by decide +kernel⟩⟩
theorem d_11_58 : decode (mC 11) 58 = .ok (.return_, 1) := by decide +kernel
theorem d_0_143 : decode (mC 0) 143 = .ok (.putfield 74, 3) := by decide +kernel
theorem fq_0_74 : FPut (mN 0).cls (mN 0).name 74 11 10 := ⟨_, rfl, by decide, by rw [cn_0]; exact List.mem_of_getElem? (i := 493) (by decide +kernel), Or.inr ⟨rfl, by decide +kernel, by decide +kernel⟩⟩
theorem d_0_146 : decode (mC 0) 146 = .ok (.aload_n 0, 1) := by decide +kernel
theorem d_0_147 : decode (mC 0) 147 = .ok (.new 78, 3) := by decide +kernel
theorem cw1_0_78 : Cond.classLink (mN 0).cls 78 RX7 ∈ lw_tbl := List.mem_of_getElem? (i := 446) (by decide +kernel)
theorem cw2_7 : Cond.instantiable RX7 9 ∈ lw_tbl := List.mem_of_getElem? (i := 447) (by decide +kernel)
theorem cw3_7 : Cond.initialized RX7 ∈ lw_tbl := List.mem_of_getElem? (i := 99) (by decide +kernel)
theorem d_0_150 : decode (mC 0) 150 = .ok (.dup, 1) := by decide +kernel
theorem d_0_151 : decode (mC 0) 151 = .ok (.invokespecial 80, 3) := by decide +kernel
theorem mo_12 : MOK 12 := ⟨List.mem_of_getElem? (i := 450) (by decide +kernel), by decide +kernel, ⟨by decide +kernel, by decide +kernel⟩, List.mem_of_getElem? (i := 99) (by decide +kernel), by decide +kernel⟩
theorem iw_12 : Cond.instanceMethod (mN 12) ∈ lw_tbl := List.mem_of_getElem? (i := 449) (by decide +kernel)
theorem nw_0_80 : Cond.methodLinkNest (mN 0).cls 80 (mN 12) "CordLoft" ∈ lw_tbl := List.mem_of_getElem? (i := 448) (by decide +kernel)
theorem mr_12 : mR 12 = none := by decide +kernel
theorem ml_12 : mL 12 = 1 := by decide +kernel
theorem d_12_0 : decode (mC 12) 0 = .ok (.aload_n 0, 1) := by decide +kernel
theorem d_12_1 : decode (mC 12) 1 = .ok (.invokespecial 3, 3) := by decide +kernel
theorem ow_12 : Cond.methodLink (mN 12).cls 3 Lib.objectInit ∈ lw_tbl := List.mem_of_getElem? (i := 451) (by decide +kernel)
theorem d_12_4 : decode (mC 12) 4 = .ok (.aload_n 0, 1) := by decide +kernel
theorem d_12_5 : decode (mC 12) 5 = .ok (.bipush 30, 2) := by decide +kernel
theorem d_12_7 : decode (mC 12) 7 = .ok (.newarray .int, 2) := by decide +kernel
theorem d_12_9 : decode (mC 12) 9 = .ok (.putfield 11, 3) := by decide +kernel
theorem cn_12 : (mN 12).cls = "CordLoft$Sight" := by decide +kernel
theorem fq_12_11 : FPut (mN 12).cls (mN 12).name 11 7 0 := ⟨_, rfl, by decide, by rw [cn_12]; exact List.mem_of_getElem? (i := 452) (by decide +kernel), Or.inr ⟨rfl, by decide +kernel, by decide +kernel⟩⟩
theorem d_12_12 : decode (mC 12) 12 = .ok (.aload_n 0, 1) := by decide +kernel
theorem d_12_13 : decode (mC 12) 13 = .ok (.bipush 30, 2) := by decide +kernel
theorem d_12_15 : decode (mC 12) 15 = .ok (.newarray .boolean, 2) := by decide +kernel
theorem d_12_17 : decode (mC 12) 17 = .ok (.putfield 15, 3) := by decide +kernel
theorem fq_12_15 : FPut (mN 12).cls (mN 12).name 15 7 1 := ⟨_, rfl, by decide, by rw [cn_12]; exact List.mem_of_getElem? (i := 453) (by decide +kernel), Or.inr ⟨rfl, by decide +kernel, by decide +kernel⟩⟩
theorem d_12_20 : decode (mC 12) 20 = .ok (.aload_n 0, 1) := by decide +kernel
theorem d_12_21 : decode (mC 12) 21 = .ok (.bipush 30, 2) := by decide +kernel
theorem d_12_23 : decode (mC 12) 23 = .ok (.newarray .int, 2) := by decide +kernel
theorem d_12_25 : decode (mC 12) 25 = .ok (.putfield 19, 3) := by decide +kernel
theorem fq_12_19 : FPut (mN 12).cls (mN 12).name 19 7 2 := ⟨_, rfl, by decide, by rw [cn_12]; exact List.mem_of_getElem? (i := 454) (by decide +kernel), Or.inr ⟨rfl, by decide +kernel, by decide +kernel⟩⟩
theorem d_12_28 : decode (mC 12) 28 = .ok (.aload_n 0, 1) := by decide +kernel
theorem d_12_29 : decode (mC 12) 29 = .ok (.bipush 30, 2) := by decide +kernel
theorem d_12_31 : decode (mC 12) 31 = .ok (.newarray .int, 2) := by decide +kernel
theorem d_12_33 : decode (mC 12) 33 = .ok (.putfield 22, 3) := by decide +kernel
theorem fq_12_22 : FPut (mN 12).cls (mN 12).name 22 7 3 := ⟨_, rfl, by decide, by rw [cn_12]; exact List.mem_of_getElem? (i := 455) (by decide +kernel), Or.inr ⟨rfl, by decide +kernel, by decide +kernel⟩⟩
theorem d_12_36 : decode (mC 12) 36 = .ok (.return_, 1) := by decide +kernel
theorem d_0_154 : decode (mC 0) 154 = .ok (.putfield 81, 3) := by decide +kernel
theorem fq_0_81 : FPut (mN 0).cls (mN 0).name 81 11 11 := ⟨_, rfl, by decide, by rw [cn_0]; exact List.mem_of_getElem? (i := 494) (by decide +kernel), Or.inr ⟨rfl, by decide +kernel, by decide +kernel⟩⟩
theorem d_0_157 : decode (mC 0) 157 = .ok (.aload_n 0, 1) := by decide +kernel
theorem d_0_158 : decode (mC 0) 158 = .ok (.sipush 256, 3) := by decide +kernel
theorem d_0_161 : decode (mC 0) 161 = .ok (.newarray .int, 2) := by decide +kernel
theorem d_0_163 : decode (mC 0) 163 = .ok (.putfield 85, 3) := by decide +kernel
theorem fq_0_85 : FPut (mN 0).cls (mN 0).name 85 11 12 := ⟨_, rfl, by decide, by rw [cn_0]; exact List.mem_of_getElem? (i := 495) (by decide +kernel), Or.inr ⟨rfl, by decide +kernel, by decide +kernel⟩⟩
theorem d_0_166 : decode (mC 0) 166 = .ok (.aload_n 0, 1) := by decide +kernel
theorem d_0_167 : decode (mC 0) 167 = .ok (.iconst 0, 1) := by decide +kernel
theorem d_0_168 : decode (mC 0) 168 = .ok (.putfield 89, 3) := by decide +kernel
theorem fq_0_89 : FPut (mN 0).cls (mN 0).name 89 11 13 := ⟨_, rfl, by decide, by rw [cn_0]; exact List.mem_of_getElem? (i := 496) (by decide +kernel), Or.inl rfl⟩
theorem d_0_171 : decode (mC 0) 171 = .ok (.aload_n 0, 1) := by decide +kernel
theorem d_0_172 : decode (mC 0) 172 = .ok (.iconst (-1), 1) := by decide +kernel
theorem d_0_173 : decode (mC 0) 173 = .ok (.putfield 92, 3) := by decide +kernel
theorem fq_0_92 : FPut (mN 0).cls (mN 0).name 92 11 14 := ⟨_, rfl, by decide, by rw [cn_0]; exact List.mem_of_getElem? (i := 497) (by decide +kernel), Or.inl rfl⟩
theorem d_0_176 : decode (mC 0) 176 = .ok (.return_, 1) := by decide +kernel
theorem d_329_7 : decode (mC 329) 7 = .ok (.astore_n 1, 1) := by decide +kernel
theorem d_329_8 : decode (mC 329) 8 = .ok (.new 10, 3) := by decide +kernel
theorem cw1_329_10 : Cond.classLink (mN 329).cls 10 RX12 ∈ lw_tbl := List.mem_of_getElem? (i := 1285) (by decide +kernel)
theorem cw2_12 : Cond.instantiable RX12 71 ∈ lw_tbl := List.mem_of_getElem? (i := 1286) (by decide +kernel)
theorem cw3_12 : Cond.initialized RX12 ∈ lw_tbl := List.mem_of_getElem? (i := 100) (by decide +kernel)
theorem d_329_11 : decode (mC 329) 11 = .ok (.dup, 1) := by decide +kernel
theorem d_329_12 : decode (mC 329) 12 = .ok (.invokespecial 12, 3) := by decide +kernel
theorem mo_199 : MOK 199 := ⟨List.mem_of_getElem? (i := 1289) (by decide +kernel), by decide +kernel, ⟨by decide +kernel, by decide +kernel⟩, List.mem_of_getElem? (i := 100) (by decide +kernel), by decide +kernel⟩
theorem iw_199 : Cond.instanceMethod (mN 199) ∈ lw_tbl := List.mem_of_getElem? (i := 1288) (by decide +kernel)
theorem lb_329_12 : LKB 329 12 199 0 := ⟨List.mem_of_getElem? (i := 1287) (by decide +kernel), by decide +kernel⟩
theorem mr_199 : mR 199 = none := by decide +kernel
theorem ml_199 : mL 199 = 1 := by decide +kernel
theorem d_199_0 : decode (mC 199) 0 = .ok (.aload_n 0, 1) := by decide +kernel
theorem d_199_1 : decode (mC 199) 1 = .ok (.invokespecial 1, 3) := by decide +kernel
theorem ow_199 : Cond.methodLink (mN 199).cls 1 Lib.objectInit ∈ lw_tbl := List.mem_of_getElem? (i := 1290) (by decide +kernel)
theorem d_199_4 : decode (mC 199) 4 = .ok (.aload_n 0, 1) := by decide +kernel
theorem d_199_5 : decode (mC 199) 5 = .ok (.sipush 1600, 3) := by decide +kernel
theorem d_199_8 : decode (mC 199) 8 = .ok (.newarray .int, 2) := by decide +kernel
theorem d_199_10 : decode (mC 199) 10 = .ok (.putfield 7, 3) := by decide +kernel
theorem cn_199 : (mN 199).cls = "CordLoftModel" := by decide +kernel
theorem fq_199_7 : FPut (mN 199).cls (mN 199).name 7 12 0 := ⟨_, rfl, by decide, by rw [cn_199]; exact List.mem_of_getElem? (i := 1291) (by decide +kernel), Or.inr ⟨rfl, by decide +kernel, by decide +kernel⟩⟩
theorem d_199_13 : decode (mC 199) 13 = .ok (.aload_n 0, 1) := by decide +kernel
theorem d_199_14 : decode (mC 199) 14 = .ok (.iconst (-1), 1) := by decide +kernel
theorem d_199_15 : decode (mC 199) 15 = .ok (.putfield 13, 3) := by decide +kernel
theorem fq_199_13 : FPut (mN 199).cls (mN 199).name 13 12 3 := ⟨_, rfl, by decide, by rw [cn_199]; exact List.mem_of_getElem? (i := 1294) (by decide +kernel), Or.inl rfl⟩
theorem d_199_18 : decode (mC 199) 18 = .ok (.aload_n 0, 1) := by decide +kernel
theorem d_199_19 : decode (mC 199) 19 = .ok (.bipush 16, 2) := by decide +kernel
theorem d_199_21 : decode (mC 199) 21 = .ok (.newarray .long, 2) := by decide +kernel
theorem d_199_23 : decode (mC 199) 23 = .ok (.putfield 17, 3) := by decide +kernel
theorem fq_199_17 : FPut (mN 199).cls (mN 199).name 17 12 10 := ⟨_, rfl, by decide, by rw [cn_199]; exact List.mem_of_getElem? (i := 1301) (by decide +kernel), Or.inr ⟨rfl, by decide +kernel, by decide +kernel⟩⟩
theorem d_199_26 : decode (mC 199) 26 = .ok (.aload_n 0, 1) := by decide +kernel
theorem d_199_27 : decode (mC 199) 27 = .ok (.sipush 320, 3) := by decide +kernel
theorem si_320 : (Int16.ofInt 320).toInt32 = 320 := by decide +kernel
theorem d_199_30 : decode (mC 199) 30 = .ok (.newarray .int, 2) := by decide +kernel
theorem d_199_32 : decode (mC 199) 32 = .ok (.putfield 21, 3) := by decide +kernel
theorem fq_199_21 : FPut (mN 199).cls (mN 199).name 21 12 11 := ⟨_, rfl, by decide, by rw [cn_199]; exact List.mem_of_getElem? (i := 1302) (by decide +kernel), Or.inr ⟨rfl, by decide +kernel, by decide +kernel⟩⟩
theorem d_199_35 : decode (mC 199) 35 = .ok (.aload_n 0, 1) := by decide +kernel
theorem d_199_36 : decode (mC 199) 36 = .ok (.sipush 320, 3) := by decide +kernel
theorem d_199_39 : decode (mC 199) 39 = .ok (.newarray .int, 2) := by decide +kernel
theorem d_199_41 : decode (mC 199) 41 = .ok (.putfield 24, 3) := by decide +kernel
theorem fq_199_24 : FPut (mN 199).cls (mN 199).name 24 12 12 := ⟨_, rfl, by decide, by rw [cn_199]; exact List.mem_of_getElem? (i := 1303) (by decide +kernel), Or.inr ⟨rfl, by decide +kernel, by decide +kernel⟩⟩
theorem d_199_44 : decode (mC 199) 44 = .ok (.aload_n 0, 1) := by decide +kernel
theorem d_199_45 : decode (mC 199) 45 = .ok (.sipush 320, 3) := by decide +kernel
theorem d_199_48 : decode (mC 199) 48 = .ok (.newarray .int, 2) := by decide +kernel
theorem d_199_50 : decode (mC 199) 50 = .ok (.putfield 27, 3) := by decide +kernel
theorem fq_199_27 : FPut (mN 199).cls (mN 199).name 27 12 13 := ⟨_, rfl, by decide, by rw [cn_199]; exact List.mem_of_getElem? (i := 1304) (by decide +kernel), Or.inr ⟨rfl, by decide +kernel, by decide +kernel⟩⟩
theorem d_199_53 : decode (mC 199) 53 = .ok (.aload_n 0, 1) := by decide +kernel
theorem d_199_54 : decode (mC 199) 54 = .ok (.sipush 320, 3) := by decide +kernel
theorem d_199_57 : decode (mC 199) 57 = .ok (.newarray .int, 2) := by decide +kernel
theorem d_199_59 : decode (mC 199) 59 = .ok (.putfield 30, 3) := by decide +kernel
theorem fq_199_30 : FPut (mN 199).cls (mN 199).name 30 12 14 := ⟨_, rfl, by decide, by rw [cn_199]; exact List.mem_of_getElem? (i := 1305) (by decide +kernel), Or.inr ⟨rfl, by decide +kernel, by decide +kernel⟩⟩
theorem d_199_62 : decode (mC 199) 62 = .ok (.aload_n 0, 1) := by decide +kernel
theorem d_199_63 : decode (mC 199) 63 = .ok (.sipush 160, 3) := by decide +kernel
theorem si_160 : (Int16.ofInt 160).toInt32 = 160 := by decide +kernel
theorem d_199_66 : decode (mC 199) 66 = .ok (.newarray .int, 2) := by decide +kernel
theorem d_199_68 : decode (mC 199) 68 = .ok (.putfield 33, 3) := by decide +kernel
theorem fq_199_33 : FPut (mN 199).cls (mN 199).name 33 12 15 := ⟨_, rfl, by decide, by rw [cn_199]; exact List.mem_of_getElem? (i := 1306) (by decide +kernel), Or.inr ⟨rfl, by decide +kernel, by decide +kernel⟩⟩
theorem d_199_71 : decode (mC 199) 71 = .ok (.aload_n 0, 1) := by decide +kernel
theorem d_199_72 : decode (mC 199) 72 = .ok (.bipush 64, 2) := by decide +kernel
theorem bi_64 : (Int8.ofInt 64).toInt32 = 64 := by decide +kernel
theorem d_199_74 : decode (mC 199) 74 = .ok (.newarray .int, 2) := by decide +kernel
theorem d_199_76 : decode (mC 199) 76 = .ok (.putfield 36, 3) := by decide +kernel
theorem fq_199_36 : FPut (mN 199).cls (mN 199).name 36 12 16 := ⟨_, rfl, by decide, by rw [cn_199]; exact List.mem_of_getElem? (i := 1307) (by decide +kernel), Or.inr ⟨rfl, by decide +kernel, by decide +kernel⟩⟩
theorem d_199_79 : decode (mC 199) 79 = .ok (.aload_n 0, 1) := by decide +kernel
theorem d_199_80 : decode (mC 199) 80 = .ok (.bipush 6, 2) := by decide +kernel
theorem d_199_82 : decode (mC 199) 82 = .ok (.newarray .int, 2) := by decide +kernel
theorem d_199_84 : decode (mC 199) 84 = .ok (.putfield 39, 3) := by decide +kernel
theorem fq_199_39 : FPut (mN 199).cls (mN 199).name 39 12 26 := ⟨_, rfl, by decide, by rw [cn_199]; exact List.mem_of_getElem? (i := 1317) (by decide +kernel), Or.inr ⟨rfl, by decide +kernel, by decide +kernel⟩⟩
theorem d_199_87 : decode (mC 199) 87 = .ok (.aload_n 0, 1) := by decide +kernel
theorem d_199_88 : decode (mC 199) 88 = .ok (.bipush 8, 2) := by decide +kernel
theorem d_199_90 : decode (mC 199) 90 = .ok (.newarray .int, 2) := by decide +kernel
theorem d_199_92 : decode (mC 199) 92 = .ok (.putfield 42, 3) := by decide +kernel
theorem fq_199_42 : FPut (mN 199).cls (mN 199).name 42 12 27 := ⟨_, rfl, by decide, by rw [cn_199]; exact List.mem_of_getElem? (i := 1318) (by decide +kernel), Or.inr ⟨rfl, by decide +kernel, by decide +kernel⟩⟩
theorem d_199_95 : decode (mC 199) 95 = .ok (.aload_n 0, 1) := by decide +kernel
theorem d_199_96 : decode (mC 199) 96 = .ok (.bipush 8, 2) := by decide +kernel
theorem d_199_98 : decode (mC 199) 98 = .ok (.newarray .int, 2) := by decide +kernel
theorem d_199_100 : decode (mC 199) 100 = .ok (.putfield 45, 3) := by decide +kernel
theorem fq_199_45 : FPut (mN 199).cls (mN 199).name 45 12 28 := ⟨_, rfl, by decide, by rw [cn_199]; exact List.mem_of_getElem? (i := 1319) (by decide +kernel), Or.inr ⟨rfl, by decide +kernel, by decide +kernel⟩⟩
theorem d_199_103 : decode (mC 199) 103 = .ok (.aload_n 0, 1) := by decide +kernel
theorem d_199_104 : decode (mC 199) 104 = .ok (.bipush 8, 2) := by decide +kernel
theorem d_199_106 : decode (mC 199) 106 = .ok (.newarray .int, 2) := by decide +kernel
theorem d_199_108 : decode (mC 199) 108 = .ok (.putfield 48, 3) := by decide +kernel
theorem fq_199_48 : FPut (mN 199).cls (mN 199).name 48 12 29 := ⟨_, rfl, by decide, by rw [cn_199]; exact List.mem_of_getElem? (i := 1320) (by decide +kernel), Or.inr ⟨rfl, by decide +kernel, by decide +kernel⟩⟩
theorem d_199_111 : decode (mC 199) 111 = .ok (.aload_n 0, 1) := by decide +kernel
theorem d_199_112 : decode (mC 199) 112 = .ok (.bipush 8, 2) := by decide +kernel
theorem d_199_114 : decode (mC 199) 114 = .ok (.newarray .int, 2) := by decide +kernel
theorem d_199_116 : decode (mC 199) 116 = .ok (.putfield 51, 3) := by decide +kernel
theorem fq_199_51 : FPut (mN 199).cls (mN 199).name 51 12 30 := ⟨_, rfl, by decide, by rw [cn_199]; exact List.mem_of_getElem? (i := 1321) (by decide +kernel), Or.inr ⟨rfl, by decide +kernel, by decide +kernel⟩⟩
theorem d_199_119 : decode (mC 199) 119 = .ok (.aload_n 0, 1) := by decide +kernel
theorem d_199_120 : decode (mC 199) 120 = .ok (.bipush 8, 2) := by decide +kernel
theorem d_199_122 : decode (mC 199) 122 = .ok (.newarray .int, 2) := by decide +kernel
theorem d_199_124 : decode (mC 199) 124 = .ok (.putfield 54, 3) := by decide +kernel
theorem fq_199_54 : FPut (mN 199).cls (mN 199).name 54 12 31 := ⟨_, rfl, by decide, by rw [cn_199]; exact List.mem_of_getElem? (i := 1322) (by decide +kernel), Or.inr ⟨rfl, by decide +kernel, by decide +kernel⟩⟩
theorem d_199_127 : decode (mC 199) 127 = .ok (.aload_n 0, 1) := by decide +kernel
theorem d_199_128 : decode (mC 199) 128 = .ok (.bipush 8, 2) := by decide +kernel
theorem d_199_130 : decode (mC 199) 130 = .ok (.newarray .int, 2) := by decide +kernel
theorem d_199_132 : decode (mC 199) 132 = .ok (.putfield 57, 3) := by decide +kernel
theorem fq_199_57 : FPut (mN 199).cls (mN 199).name 57 12 32 := ⟨_, rfl, by decide, by rw [cn_199]; exact List.mem_of_getElem? (i := 1323) (by decide +kernel), Or.inr ⟨rfl, by decide +kernel, by decide +kernel⟩⟩
theorem d_199_135 : decode (mC 199) 135 = .ok (.aload_n 0, 1) := by decide +kernel
theorem d_199_136 : decode (mC 199) 136 = .ok (.bipush 8, 2) := by decide +kernel
theorem d_199_138 : decode (mC 199) 138 = .ok (.newarray .int, 2) := by decide +kernel
theorem d_199_140 : decode (mC 199) 140 = .ok (.putfield 60, 3) := by decide +kernel
theorem fq_199_60 : FPut (mN 199).cls (mN 199).name 60 12 33 := ⟨_, rfl, by decide, by rw [cn_199]; exact List.mem_of_getElem? (i := 1324) (by decide +kernel), Or.inr ⟨rfl, by decide +kernel, by decide +kernel⟩⟩
theorem d_199_143 : decode (mC 199) 143 = .ok (.aload_n 0, 1) := by decide +kernel
theorem d_199_144 : decode (mC 199) 144 = .ok (.bipush 8, 2) := by decide +kernel
theorem d_199_146 : decode (mC 199) 146 = .ok (.newarray .int, 2) := by decide +kernel
theorem d_199_148 : decode (mC 199) 148 = .ok (.putfield 63, 3) := by decide +kernel
theorem fq_199_63 : FPut (mN 199).cls (mN 199).name 63 12 34 := ⟨_, rfl, by decide, by rw [cn_199]; exact List.mem_of_getElem? (i := 1325) (by decide +kernel), Or.inr ⟨rfl, by decide +kernel, by decide +kernel⟩⟩
theorem d_199_151 : decode (mC 199) 151 = .ok (.aload_n 0, 1) := by decide +kernel
theorem d_199_152 : decode (mC 199) 152 = .ok (.iconst 5, 1) := by decide +kernel
theorem d_199_153 : decode (mC 199) 153 = .ok (.newarray .int, 2) := by decide +kernel
theorem d_199_155 : decode (mC 199) 155 = .ok (.putfield 66, 3) := by decide +kernel
theorem fq_199_66 : FPut (mN 199).cls (mN 199).name 66 12 50 := ⟨_, rfl, by decide, by rw [cn_199]; exact List.mem_of_getElem? (i := 1341) (by decide +kernel), Or.inr ⟨rfl, by decide +kernel, by decide +kernel⟩⟩
theorem d_199_158 : decode (mC 199) 158 = .ok (.aload_n 0, 1) := by decide +kernel
theorem d_199_159 : decode (mC 199) 159 = .ok (.sipush 200, 3) := by decide +kernel
theorem si_200 : (Int16.ofInt 200).toInt32 = 200 := by decide +kernel
theorem d_199_162 : decode (mC 199) 162 = .ok (.newarray .int, 2) := by decide +kernel
theorem d_199_164 : decode (mC 199) 164 = .ok (.putfield 69, 3) := by decide +kernel
theorem fq_199_69 : FPut (mN 199).cls (mN 199).name 69 12 51 := ⟨_, rfl, by decide, by rw [cn_199]; exact List.mem_of_getElem? (i := 1342) (by decide +kernel), Or.inr ⟨rfl, by decide +kernel, by decide +kernel⟩⟩
theorem d_199_167 : decode (mC 199) 167 = .ok (.aload_n 0, 1) := by decide +kernel
theorem d_199_168 : decode (mC 199) 168 = .ok (.sipush 256, 3) := by decide +kernel
theorem d_199_171 : decode (mC 199) 171 = .ok (.newarray .boolean, 2) := by decide +kernel
theorem d_199_173 : decode (mC 199) 173 = .ok (.putfield 72, 3) := by decide +kernel
theorem fq_199_72 : FPut (mN 199).cls (mN 199).name 72 12 55 := ⟨_, rfl, by decide, by rw [cn_199]; exact List.mem_of_getElem? (i := 1346) (by decide +kernel), Or.inr ⟨rfl, by decide +kernel, by decide +kernel⟩⟩
theorem d_199_176 : decode (mC 199) 176 = .ok (.aload_n 0, 1) := by decide +kernel
theorem d_199_177 : decode (mC 199) 177 = .ok (.sipush 256, 3) := by decide +kernel
theorem d_199_180 : decode (mC 199) 180 = .ok (.newarray .int, 2) := by decide +kernel
theorem d_199_182 : decode (mC 199) 182 = .ok (.putfield 76, 3) := by decide +kernel
theorem fq_199_76 : FPut (mN 199).cls (mN 199).name 76 12 56 := ⟨_, rfl, by decide, by rw [cn_199]; exact List.mem_of_getElem? (i := 1347) (by decide +kernel), Or.inr ⟨rfl, by decide +kernel, by decide +kernel⟩⟩
theorem d_199_185 : decode (mC 199) 185 = .ok (.aload_n 0, 1) := by decide +kernel
theorem d_199_186 : decode (mC 199) 186 = .ok (.sipush 256, 3) := by decide +kernel
theorem d_199_189 : decode (mC 199) 189 = .ok (.newarray .int, 2) := by decide +kernel
theorem d_199_191 : decode (mC 199) 191 = .ok (.putfield 79, 3) := by decide +kernel
theorem fq_199_79 : FPut (mN 199).cls (mN 199).name 79 12 57 := ⟨_, rfl, by decide, by rw [cn_199]; exact List.mem_of_getElem? (i := 1348) (by decide +kernel), Or.inr ⟨rfl, by decide +kernel, by decide +kernel⟩⟩
theorem d_199_194 : decode (mC 199) 194 = .ok (.aload_n 0, 1) := by decide +kernel
theorem d_199_195 : decode (mC 199) 195 = .ok (.sipush 256, 3) := by decide +kernel
theorem d_199_198 : decode (mC 199) 198 = .ok (.newarray .int, 2) := by decide +kernel
theorem d_199_200 : decode (mC 199) 200 = .ok (.putfield 82, 3) := by decide +kernel
theorem fq_199_82 : FPut (mN 199).cls (mN 199).name 82 12 58 := ⟨_, rfl, by decide, by rw [cn_199]; exact List.mem_of_getElem? (i := 1349) (by decide +kernel), Or.inr ⟨rfl, by decide +kernel, by decide +kernel⟩⟩
theorem d_199_203 : decode (mC 199) 203 = .ok (.aload_n 0, 1) := by decide +kernel
theorem d_199_204 : decode (mC 199) 204 = .ok (.sipush 256, 3) := by decide +kernel
theorem d_199_207 : decode (mC 199) 207 = .ok (.newarray .int, 2) := by decide +kernel
theorem d_199_209 : decode (mC 199) 209 = .ok (.putfield 85, 3) := by decide +kernel
theorem fq_199_85 : FPut (mN 199).cls (mN 199).name 85 12 60 := ⟨_, rfl, by decide, by rw [cn_199]; exact List.mem_of_getElem? (i := 1351) (by decide +kernel), Or.inr ⟨rfl, by decide +kernel, by decide +kernel⟩⟩
theorem d_199_212 : decode (mC 199) 212 = .ok (.aload_n 0, 1) := by decide +kernel
theorem d_199_213 : decode (mC 199) 213 = .ok (.sipush 256, 3) := by decide +kernel
theorem d_199_216 : decode (mC 199) 216 = .ok (.newarray .int, 2) := by decide +kernel
theorem d_199_218 : decode (mC 199) 218 = .ok (.putfield 88, 3) := by decide +kernel
theorem fq_199_88 : FPut (mN 199).cls (mN 199).name 88 12 61 := ⟨_, rfl, by decide, by rw [cn_199]; exact List.mem_of_getElem? (i := 1352) (by decide +kernel), Or.inr ⟨rfl, by decide +kernel, by decide +kernel⟩⟩
theorem d_199_221 : decode (mC 199) 221 = .ok (.aload_n 0, 1) := by decide +kernel
theorem d_199_222 : decode (mC 199) 222 = .ok (.sipush 256, 3) := by decide +kernel
theorem d_199_225 : decode (mC 199) 225 = .ok (.newarray .int, 2) := by decide +kernel
theorem d_199_227 : decode (mC 199) 227 = .ok (.putfield 91, 3) := by decide +kernel
theorem fq_199_91 : FPut (mN 199).cls (mN 199).name 91 12 62 := ⟨_, rfl, by decide, by rw [cn_199]; exact List.mem_of_getElem? (i := 1353) (by decide +kernel), Or.inr ⟨rfl, by decide +kernel, by decide +kernel⟩⟩
theorem d_199_230 : decode (mC 199) 230 = .ok (.aload_n 0, 1) := by decide +kernel
theorem d_199_231 : decode (mC 199) 231 = .ok (.bipush 30, 2) := by decide +kernel
theorem d_199_233 : decode (mC 199) 233 = .ok (.newarray .int, 2) := by decide +kernel
theorem d_199_235 : decode (mC 199) 235 = .ok (.putfield 94, 3) := by decide +kernel
theorem fq_199_94 : FPut (mN 199).cls (mN 199).name 94 12 63 := ⟨_, rfl, by decide, by rw [cn_199]; exact List.mem_of_getElem? (i := 1354) (by decide +kernel), Or.inr ⟨rfl, by decide +kernel, by decide +kernel⟩⟩
theorem d_199_238 : decode (mC 199) 238 = .ok (.aload_n 0, 1) := by decide +kernel
theorem d_199_239 : decode (mC 199) 239 = .ok (.bipush 30, 2) := by decide +kernel
theorem d_199_241 : decode (mC 199) 241 = .ok (.newarray .int, 2) := by decide +kernel
theorem d_199_243 : decode (mC 199) 243 = .ok (.putfield 97, 3) := by decide +kernel
theorem fq_199_97 : FPut (mN 199).cls (mN 199).name 97 12 64 := ⟨_, rfl, by decide, by rw [cn_199]; exact List.mem_of_getElem? (i := 1355) (by decide +kernel), Or.inr ⟨rfl, by decide +kernel, by decide +kernel⟩⟩
theorem d_199_246 : decode (mC 199) 246 = .ok (.aload_n 0, 1) := by decide +kernel
theorem d_199_247 : decode (mC 199) 247 = .ok (.bipush 30, 2) := by decide +kernel
theorem d_199_249 : decode (mC 199) 249 = .ok (.newarray .int, 2) := by decide +kernel
theorem d_199_251 : decode (mC 199) 251 = .ok (.putfield 100, 3) := by decide +kernel
theorem fq_199_100 : FPut (mN 199).cls (mN 199).name 100 12 65 := ⟨_, rfl, by decide, by rw [cn_199]; exact List.mem_of_getElem? (i := 1356) (by decide +kernel), Or.inr ⟨rfl, by decide +kernel, by decide +kernel⟩⟩
theorem d_199_254 : decode (mC 199) 254 = .ok (.aload_n 0, 1) := by decide +kernel
theorem d_199_255 : decode (mC 199) 255 = .ok (.bipush 30, 2) := by decide +kernel
theorem d_199_257 : decode (mC 199) 257 = .ok (.newarray .boolean, 2) := by decide +kernel
theorem d_199_259 : decode (mC 199) 259 = .ok (.putfield 103, 3) := by decide +kernel
theorem fq_199_103 : FPut (mN 199).cls (mN 199).name 103 12 66 := ⟨_, rfl, by decide, by rw [cn_199]; exact List.mem_of_getElem? (i := 1357) (by decide +kernel), Or.inr ⟨rfl, by decide +kernel, by decide +kernel⟩⟩
theorem d_199_262 : decode (mC 199) 262 = .ok (.aload_n 0, 1) := by decide +kernel
theorem d_199_263 : decode (mC 199) 263 = .ok (.iconst 3, 1) := by decide +kernel
theorem d_199_264 : decode (mC 199) 264 = .ok (.newarray .boolean, 2) := by decide +kernel
theorem d_199_266 : decode (mC 199) 266 = .ok (.putfield 106, 3) := by decide +kernel
theorem fq_199_106 : FPut (mN 199).cls (mN 199).name 106 12 69 := ⟨_, rfl, by decide, by rw [cn_199]; exact List.mem_of_getElem? (i := 1360) (by decide +kernel), Or.inr ⟨rfl, by decide +kernel, by decide +kernel⟩⟩
theorem d_199_269 : decode (mC 199) 269 = .ok (.aload_n 0, 1) := by decide +kernel
theorem d_199_270 : decode (mC 199) 270 = .ok (.bipush 15, 2) := by decide +kernel
theorem bi_15 : (Int8.ofInt 15).toInt32 = 15 := by decide +kernel
theorem d_199_272 : decode (mC 199) 272 = .ok (.newarray .int, 2) := by decide +kernel
theorem d_199_274 : decode (mC 199) 274 = .ok (.putfield 109, 3) := by decide +kernel
theorem fq_199_109 : FPut (mN 199).cls (mN 199).name 109 12 70 := ⟨_, rfl, by decide, by rw [cn_199]; exact List.mem_of_getElem? (i := 1361) (by decide +kernel), Or.inr ⟨rfl, by decide +kernel, by decide +kernel⟩⟩
theorem d_199_277 : decode (mC 199) 277 = .ok (.return_, 1) := by decide +kernel
theorem d_329_15 : decode (mC 329) 15 = .ok (.astore_n 2, 1) := by decide +kernel
theorem d_329_16 : decode (mC 329) 16 = .ok (.iconst 0, 1) := by decide +kernel
theorem d_329_17 : decode (mC 329) 17 = .ok (.istore_n 3, 1) := by decide +kernel
def mkI : List (Nat × Nat × Int32) → Nat → Nat → Int32
  | [], _, _ => 0
  | (c, k, v) :: r, a, b => if a = c ∧ b = k then v else mkI r a b
def mkR : List (Nat × Nat × Nat) → Nat → Nat → Nat
  | [], _, _ => 999
  | (c, k, v) :: r, a, b => if a = c ∧ b = k then v else mkR r a b
def mk (n : Nat) (r : List (Nat × Nat × Nat)) (i : List (Nat × Nat × Int32)) : AM := (mkI i, fun _ _ => 0, mkR r, n)
def noent (n : Nat) (r : List (Nat × Nat × Nat)) (i : List (Nat × Nat × Int32)) : Bool := r.all (fun e => e.1 != n) && i.all (fun e => e.1 != n)
theorem mkI_no {n : Nat} : ∀ {i : List (Nat × Nat × Int32)}, i.all (fun e => e.1 != n) = true → ∀ b, mkI i n b = 0
  | [], _, _ => rfl
  | (c, k, v) :: r, h, b => by
    simp only [List.all_cons, Bool.and_eq_true, bne_iff_ne, ne_eq] at h
    rw [mkI, if_neg (fun q => h.1 q.1.symm)]
    exact mkI_no h.2 b
theorem mkR_no {n : Nat} : ∀ {i : List (Nat × Nat × Nat)}, i.all (fun e => e.1 != n) = true → ∀ b, mkR i n b = 999
  | [], _, _ => rfl
  | (c, k, v) :: r, h, b => by
    simp only [List.all_cons, Bool.and_eq_true, bne_iff_ne, ne_eq] at h
    rw [mkR, if_neg (fun q => h.1 q.1.symm)]
    exact mkR_no h.2 b
theorem sN_mk {n : Nat} {r : List (Nat × Nat × Nat)} {i : List (Nat × Nat × Int32)} (h : noent n r i = true) : sN (mk n r i) = mk (n + 1) r i := by
  simp only [noent, Bool.and_eq_true] at h
  unfold sN mk
  refine Prod.ext ?_ (Prod.ext ?_ (Prod.ext ?_ rfl))
  · funext a b
    show (if a = n then 0 else mkI i a b) = mkI i a b
    split
    · rename_i e; rw [e, mkI_no h.2]
    · rfl
  · funext a b
    show (if a = n then (0 : Int64) else 0) = 0
    split <;> rfl
  · funext a b
    show (if a = n then 999 else mkR r a b) = mkR r a b
    split
    · rename_i e; rw [e, mkR_no h.1]
    · rfl
section CR
variable {G : GT} {d m pc : Nat} {ls st : List Value} {n : Nat} {r : List (Nat × Nat × Nat)} {i : List (Nat × Nat × Int32)} {nc ns : Nat} {Q : AM → Option Value → Prop}
theorem C_new {idx ci N : Nat} {C : String} {T : u_T} (hd : decode (mC m) pc = .ok (.new idx, 3)) (hq : vwCl[ci]? = some (C, T, N)) (hw1 : Cond.classLink (mN m).cls idx C ∈ lw_tbl) (hw2 : Cond.instantiable C N ∈ lw_tbl) (hw3 : Cond.initialized C ∈ lw_tbl) (hk : kd0 n = ci + 1) (hx : Nat.blt n 138 = true) (hnc : Nat.ble (nc + 1) (mcT m) = true) (hns : Nat.ble (ns + N) (msT m) = true) (hno : noent n r i = true)
    (h : PW G d m (pc + 3) ls (.ref n :: st) (mk (n + 1) r i) (nc + 1) (ns + N) Q) : PW G d m pc ls st (mk n r i) nc ns Q :=
  P_new (q := (C, T, N)) hd hq hw1 hw2 hw3 hk (Nat.le_of_ble_eq_true hx) (Nat.le_of_ble_eq_true hnc) (Nat.le_of_ble_eq_true hns) (by rw [sN_mk hno]; exact h)
theorem C_newarr {atype : ArrayType} {z : Int32} {N k : Nat} (hd : decode (mC m) pc = .ok (.newarray atype, 2)) (hw : Cond.arrayClass (newarray.typeOf atype) ∈ lw_tbl) (hty : newarray.typeOf atype = aty k) (h1 : 20 ≤ k) (h2 : k ≤ 23) (hn0 : ¬ z < 0) (hN : z.toNatClampNeg = N) (hb : N * componentBytes (newarray.typeOf atype) ≤ 536870912) (hk : kd0 n = k) (hl : ln0 n = N) (hx : Nat.blt n 138 = true) (hnc : Nat.ble (nc + 1) (mcT m) = true) (hns : Nat.ble (ns + N) (msT m) = true) (hno : noent n r i = true)
    (h : PW G d m (pc + 2) ls (.ref n :: st) (mk (n + 1) r i) (nc + 1) (ns + N) Q) : PW G d m pc ls (.int z :: st) (mk n r i) nc ns Q :=
  P_newarr hd hw hty h1 h2 hn0 hN hb hk hl (Nat.le_of_ble_eq_true hx) (Nat.le_of_ble_eq_true hnc) (Nat.le_of_ble_eq_true hns) (by rw [sN_mk hno]; exact h)
theorem C_newref {idx : Nat} {z : Int32} {N : Nat} (hd : decode (mC m) pc = .ok (.anewarray idx, 3)) (hw : Cond.classLink (mN m).cls idx "CordLoft$State" ∈ lw_tbl) (hn0 : ¬ z < 0) (hN : z.toNatClampNeg = N) (hb : N * 4 ≤ 536870912) (hk : kd0 n = 24) (hl : ln0 n = N) (hx : Nat.blt n 138 = true) (hnc : Nat.ble (nc + 1) (mcT m) = true) (hns : Nat.ble (ns + N) (msT m) = true) (hno : noent n r i = true)
    (h : PW G d m (pc + 3) ls (.ref n :: st) (mk (n + 1) r i) (nc + 1) (ns + N) Q) : PW G d m pc ls (.int z :: st) (mk n r i) nc ns Q :=
  P_newref hd hw hn0 hN hb hk hl (Nat.le_of_ble_eq_true hx) (Nat.le_of_ble_eq_true hnc) (Nat.le_of_ble_eq_true hns) (by rw [sN_mk hno]; exact h)
theorem C_putR {idx ci k x v : Nat} (hd : decode (mC m) pc = .ok (.putfield idx, 3)) (hF : FPut (mN m).cls (mN m).name idx ci k) (hc : fcode (tyOf ci k) = 2) (hk : kd0 x = ci + 1) (hx : Nat.blt x n = true) (h : PW G d m (pc + 3) ls st (mk n ((x, k, v) :: r) i) nc ns Q) : PW G d m pc ls (.ref v :: .ref x :: st) (mk n r i) nc ns Q :=
  P_putf (M' := sR (mk n r i) x k v) hd hF hk (Nat.le_of_ble_eq_true hx) rfl fv_sR_ne (fun j => fv_sR _ j (fun e => by rw [e]; exact hc)) (fun s hs => fits_cr hs hc v) h
theorem C_putI {idx ci k x : Nat} {v : Int32} (hd : decode (mC m) pc = .ok (.putfield idx, 3)) (hF : FPut (mN m).cls (mN m).name idx ci k) (hc : tyOf ci k = .int) (hk : kd0 x = ci + 1) (hx : Nat.blt x n = true) (h : PW G d m (pc + 3) ls st (mk n r ((x, k, v) :: i)) nc ns Q) : PW G d m pc ls (.int v :: .ref x :: st) (mk n r i) nc ns Q :=
  P_putf (M' := sI (mk n r i) x k v) hd hF hk (Nat.le_of_ble_eq_true hx) rfl fv_sI_ne (fun j => fv_sI (t := 0) (Or.inl rfl) _ j (fun e => by rw [e, hc]; rfl)) (fun s _ => by rw [hc]; exact ⟨rfl, rfl⟩) h
theorem C_aast {x v : Nat} {z : Int32} {j : Nat} (hd : decode (mC m) pc = .ok (.aastore, 1)) (hk : kd0 x = 24) (hx : Nat.blt x n = true) (hj : z.toNatClampNeg = j) (hz : ¬ (z < 0 ∨ ln0 x ≤ z.toNatClampNeg)) (hkv : kd0 v = 9) (hv : Nat.blt v n = true) (h : PW G d m (pc + 1) ls st (mk n ((x, j, v) :: r) i) nc ns Q) : PW G d m pc ls (.ref v :: .int z :: .ref x :: st) (mk n r i) nc ns Q := by
  subst hj
  exact P_aast hd hk (Nat.le_of_ble_eq_true hx) hz hkv (Nat.le_of_ble_eq_true hv) h
theorem C_getR {idx ci k x v : Nat} (hd : decode (mC m) pc = .ok (.getfield idx, 3)) (hF : FOK (mN m).cls idx ci k) (hc : fcode (tyOf ci k) = 2) (hk : kd0 x = ci + 1) (hx : Nat.blt x n = true) (hv : mkR r x k = v) (h : PW G d m (pc + 3) ls (.ref v :: st) (mk n r i) nc ns Q) : PW G d m pc ls (.ref x :: st) (mk n r i) nc ns Q := by
  subst hv
  exact P_getf hd hF hk (Nat.le_of_ble_eq_true hx) (by rw [hc]; exact h)
theorem C_istore_n {k : Fin 4} {nl : Nat} {x : Int32} {M : AM} (hd : decode (mC m) pc = .ok (.istore_n k, 1)) (hm : mL m = nl) (hi : Nat.blt k nl = true) (ho : okS ls k = true) (h : PW G d m (pc + 1) (ls.set k (.int x)) st M nc ns Q) : PW G d m pc ls (.int x :: st) M nc ns Q := P_istore_n hd (by rw [hm]; exact Nat.le_of_ble_eq_true hi) ho h
theorem C_astore_n {k : Fin 4} {nl x : Nat} {M : AM} (hd : decode (mC m) pc = .ok (.astore_n k, 1)) (hm : mL m = nl) (hi : Nat.blt k nl = true) (ho : okS ls k = true) (h : PW G d m (pc + 1) (ls.set k (.ref x)) st M nc ns Q) : PW G d m pc ls (.ref x :: st) M nc ns Q := P_astore_n hd (by rw [hm]; exact Nat.le_of_ble_eq_true hi) ho h
theorem C_iinc {k nl : Nat} {x v : Int32} {z : Int} {M : AM} (hd : decode (mC m) pc = .ok (.iinc k z, 3)) (hl : ls[k]? = some (.int x)) (hv : x + Int32.ofInt z = v) (hm : mL m = nl) (hi : Nat.blt k nl = true) (ho : okS ls k = true) (h : PW G d m (pc + 3) (ls.set k (.int v)) st M nc ns Q) : PW G d m pc ls st M nc ns Q := P_iinc hd hl hv (by rw [hm]; exact Nat.le_of_ble_eq_true hi) ho h
end CR
def M1r : List (Nat × Nat × Nat) := [(105, 70, 137), (105, 69, 136), (105, 66, 135), (105, 65, 134), (105, 64, 133), (105, 63, 132), (105, 62, 131), (105, 61, 130), (105, 60, 129), (105, 58, 128), (105, 57, 127), (105, 56, 126), (105, 55, 125), (105, 51, 124), (105, 50, 123), (105, 34, 122), (105, 33, 121), (105, 32, 120), (105, 31, 119), (105, 30, 118), (105, 29, 117), (105, 28, 116), (105, 27, 115), (105, 26, 114), (105, 16, 113), (105, 15, 112), (105, 14, 111), (105, 13, 110), (105, 12, 109), (105, 11, 108), (105, 10, 107), (105, 0, 106), (0, 12, 104), (0, 11, 99), (99, 3, 103), (99, 2, 102), (99, 1, 101), (99, 0, 100), (0, 10, 92), (92, 6, 98), (92, 5, 97), (92, 3, 96), (92, 2, 95), (92, 1, 94), (92, 0, 93), (0, 9, 86), (86, 4, 91), (86, 3, 90), (86, 2, 89), (86, 1, 88), (86, 0, 87), (82, 2, 85), (82, 1, 84), (82, 0, 83), (0, 7, 82), (0, 6, 81), (0, 5, 38), (39, 40, 80), (39, 39, 79), (39, 38, 78), (39, 37, 77), (39, 36, 76), (39, 35, 75), (39, 34, 74), (39, 33, 73), (39, 32, 72), (39, 31, 71), (39, 30, 70), (39, 29, 69), (39, 28, 68), (39, 27, 67), (39, 26, 66), (39, 25, 65), (39, 24, 64), (39, 23, 63), (39, 22, 62), (39, 21, 61), (39, 20, 60), (39, 19, 59), (39, 18, 58), (39, 17, 57), (39, 16, 56), (39, 15, 55), (39, 14, 54), (39, 13, 53), (39, 12, 52), (39, 11, 51), (39, 10, 50), (39, 9, 49), (39, 8, 48), (39, 7, 47), (39, 6, 46), (39, 5, 45), (39, 4, 44), (39, 3, 43), (39, 2, 42), (39, 1, 41), (39, 0, 40), (38, 0, 39), (0, 4, 23), (23, 13, 37), (23, 12, 36), (23, 11, 32), (32, 3, 35), (32, 2, 34), (32, 0, 33), (23, 10, 31), (23, 9, 30), (23, 8, 29), (23, 7, 28), (23, 5, 27), (23, 4, 26), (23, 3, 25), (23, 2, 24), (0, 3, 8), (8, 13, 22), (8, 12, 21), (8, 11, 17), (17, 3, 20), (17, 2, 19), (17, 0, 18), (8, 10, 16), (8, 9, 15), (8, 8, 14), (8, 7, 13), (8, 5, 12), (8, 4, 11), (8, 3, 10), (8, 2, 9), (0, 2, 7), (7, 0, 3), (0, 1, 3), (3, 2, 6), (3, 1, 5), (3, 0, 4), (0, 0, 1), (1, 0, 2)]
def M1i : List (Nat × Nat × Int32) := [(105, 3, (-1)), (0, 14, (-1)), (0, 13, 0), (0, 8, 0)]
def M1 : AM := mk 138 M1r M1i
set_option maxRecDepth 100000 in
set_option maxHeartbeats 4000000 in
theorem cons_law {G : GT} {d : Nat} {Q : AM → Option Value → Prop} (h : PW G (d + 10) 329 18 [.ref 1000, .ref 0, .ref 105, .int 0] [] M1 138 16611 Q) : PW G (d + 10) 329 0 [.ref 1000, ux, ux, ux] [] (mk 0 [] []) 0 0 Q := by
  refine C_new (ci := 11) d_329_0 rfl cw1_329_7 cw2_11 cw3_11 k_0 rfl (by decide +kernel) (by decide +kernel) (by decide +kernel) ?_
  refine P_dup d_329_3 rfl ?_
  refine P_callI (as := []) (x := 0) (st := [.ref 0]) d_329_4 lb_329_9 iw_0 mo_0 mr_0 (by decide +kernel) rfl rfl (by decide) (by decide) (by decide +kernel) (by decide +kernel) (by decide +kernel) ?_
  rw [show ent (mL 0) [.ref 0] = [.ref 0, ux] by rw [ml_0]; rfl]
  refine P_aload_n d_0_0 rfl ?_
  refine P_objInit d_0_1 ow_0 (by decide) (by omega) (by decide) ?_
  refine P_aload_n d_0_4 rfl ?_
  refine C_new (ci := 9) d_0_5 rfl cw1_0_7 cw2_9 cw3_9 k_1 rfl (by decide +kernel) (by decide +kernel) (by decide +kernel) ?_
  refine P_dup d_0_8 rfl ?_
  refine P_callIN (as := []) (x := 1) (st := [.ref 1, .ref 0]) d_0_9 nw_0_9 (by decide +kernel) iw_2 mo_2 mr_2 (by decide +kernel) rfl rfl (by decide) (by decide) (by decide +kernel) (by decide +kernel) (by decide +kernel) ?_
  rw [show ent (mL 2) [.ref 1] = [.ref 1] by rw [ml_2]; rfl]
  refine P_aload_n d_2_0 rfl ?_
  refine P_objInit d_2_1 ow_2 (by decide) (by omega) (by decide) ?_
  refine P_aload_n d_2_4 rfl ?_
  refine P_sipush d_2_5 si_1600 ?_
  refine C_newarr (k := 22) (N := 1600) d_2_8 aw_byte rfl (by decide) (by decide) (by decide +kernel) (by decide +kernel) (by decide) k_2 l_2 rfl (by decide +kernel) (by decide +kernel) (by decide +kernel) ?_
  refine C_putR d_2_10 fq_2_11 rfl k_1 rfl ?_
  refine P_ret d_2_13 mr_2 (by decide +kernel) (by decide +kernel) ?_
  refine C_putR d_0_12 fq_0_10 rfl k_0 rfl ?_
  refine P_aload_n d_0_15 rfl ?_
  refine C_new (ci := 10) d_0_16 rfl cw1_0_16 cw2_10 cw3_10 k_3 rfl (by decide +kernel) (by decide +kernel) (by decide +kernel) ?_
  refine P_dup d_0_19 rfl ?_
  refine P_callIN (as := []) (x := 3) (st := [.ref 3, .ref 0]) d_0_20 nw_0_18 (by decide +kernel) iw_3 mo_3 mr_3 (by decide +kernel) rfl rfl (by decide) (by decide) (by decide +kernel) (by decide +kernel) (by decide +kernel) ?_
  rw [show ent (mL 3) [.ref 3] = [.ref 3] by rw [ml_3]; rfl]
  refine P_aload_n d_3_0 rfl ?_
  refine P_objInit d_3_1 ow_3 (by decide) (by omega) (by decide) ?_
  refine P_aload_n d_3_4 rfl ?_
  refine P_sipush d_3_5 si_1601 ?_
  refine C_newarr (k := 20) (N := 1601) d_3_8 aw_int rfl (by decide) (by decide) (by decide +kernel) (by decide +kernel) (by decide) k_4 l_4 rfl (by decide +kernel) (by decide +kernel) (by decide +kernel) ?_
  refine C_putR d_3_10 fq_3_11 rfl k_3 rfl ?_
  refine P_aload_n d_3_13 rfl ?_
  refine P_sipush d_3_14 si_1601 ?_
  refine C_newarr (k := 20) (N := 1601) d_3_17 aw_int rfl (by decide) (by decide) (by decide +kernel) (by decide +kernel) (by decide) k_5 l_5 rfl (by decide +kernel) (by decide +kernel) (by decide +kernel) ?_
  refine C_putR d_3_19 fq_3_17 rfl k_3 rfl ?_
  refine P_aload_n d_3_22 rfl ?_
  refine P_sipush d_3_23 si_1601 ?_
  refine C_newarr (k := 21) (N := 1601) d_3_26 aw_long rfl (by decide) (by decide) (by decide +kernel) (by decide +kernel) (by decide) k_6 l_6 rfl (by decide +kernel) (by decide +kernel) (by decide +kernel) ?_
  refine C_putR d_3_28 fq_3_20 rfl k_3 rfl ?_
  refine P_ret d_3_31 mr_3 (by decide +kernel) (by decide +kernel) ?_
  refine C_putR d_0_23 fq_0_19 rfl k_0 rfl ?_
  refine P_aload_n d_0_26 rfl ?_
  refine C_new (ci := 5) d_0_27 rfl cw1_0_23 cw2_5 cw3_5 k_7 rfl (by decide +kernel) (by decide +kernel) (by decide +kernel) ?_
  refine P_dup d_0_30 rfl ?_
  refine P_aload_n d_0_31 rfl ?_
  refine C_getR (v := 3) d_0_32 (by rw [cn_0]; exact fk_CordLoft_19.1) rfl k_0 rfl (by decide +kernel) ?_
  refine P_callI (as := [.ref 3]) (x := 7) (st := [.ref 7, .ref 0]) d_0_35 lb_0_25 iw_4 mo_4 mr_4 (by decide +kernel) rfl rfl (by decide) (by decide) (by decide +kernel) (by decide +kernel) (by decide +kernel) ?_
  rw [show ent (mL 4) [.ref 7, .ref 3] = [.ref 7, .ref 3] by rw [ml_4]; rfl]
  refine P_aload_n d_4_0 rfl ?_
  refine P_objInit d_4_1 ow_4 (by decide) (by omega) (by decide) ?_
  refine P_aload_n d_4_4 rfl ?_
  refine P_aload_n d_4_5 rfl ?_
  refine C_putR d_4_6 fq_4_9 rfl k_7 rfl ?_
  refine P_ret d_4_9 mr_4 (by decide +kernel) (by decide +kernel) ?_
  refine C_putR d_0_38 fq_0_28 rfl k_0 rfl ?_
  refine P_aload_n d_0_41 rfl ?_
  refine C_new (ci := 4) d_0_42 rfl cw1_0_32 cw2_4 cw3_4 k_8 rfl (by decide +kernel) (by decide +kernel) (by decide +kernel) ?_
  refine P_dup d_0_45 rfl ?_
  refine P_callIN (as := []) (x := 8) (st := [.ref 8, .ref 0]) d_0_46 nw_0_34 (by decide +kernel) iw_5 mo_5 mr_5 (by decide +kernel) rfl rfl (by decide) (by decide) (by decide +kernel) (by decide +kernel) (by decide +kernel) ?_
  rw [show ent (mL 5) [.ref 8] = [.ref 8] by rw [ml_5]; rfl]
  refine P_aload_n d_5_0 rfl ?_
  refine P_objInit d_5_1 ow_5 (by decide) (by omega) (by decide) ?_
  refine P_aload_n d_5_4 rfl ?_
  refine P_bipush d_5_5 bi_8 ?_
  refine C_newarr (k := 21) (N := 8) d_5_7 aw_long rfl (by decide) (by decide) (by decide +kernel) (by decide +kernel) (by decide) k_9 l_9 rfl (by decide +kernel) (by decide +kernel) (by decide +kernel) ?_
  refine C_putR d_5_9 fq_5_11 rfl k_8 rfl ?_
  refine P_aload_n d_5_12 rfl ?_
  refine P_bipush d_5_13 bi_8 ?_
  refine C_newarr (k := 20) (N := 8) d_5_15 aw_int rfl (by decide) (by decide) (by decide +kernel) (by decide +kernel) (by decide) k_10 l_10 rfl (by decide +kernel) (by decide +kernel) (by decide +kernel) ?_
  refine C_putR d_5_17 fq_5_15 rfl k_8 rfl ?_
  refine P_aload_n d_5_20 rfl ?_
  refine P_bipush d_5_21 bi_8 ?_
  refine C_newarr (k := 20) (N := 8) d_5_23 aw_int rfl (by decide) (by decide) (by decide +kernel) (by decide +kernel) (by decide) k_11 l_11 rfl (by decide +kernel) (by decide +kernel) (by decide +kernel) ?_
  refine C_putR d_5_25 fq_5_19 rfl k_8 rfl ?_
  refine P_aload_n d_5_28 rfl ?_
  refine P_bipush d_5_29 bi_8 ?_
  refine C_newarr (k := 20) (N := 8) d_5_31 aw_int rfl (by decide) (by decide) (by decide +kernel) (by decide +kernel) (by decide) k_12 l_12 rfl (by decide +kernel) (by decide +kernel) (by decide +kernel) ?_
  refine C_putR d_5_33 fq_5_22 rfl k_8 rfl ?_
  refine P_aload_n d_5_36 rfl ?_
  refine P_bipush d_5_37 bi_8 ?_
  refine C_newarr (k := 21) (N := 8) d_5_39 aw_long rfl (by decide) (by decide) (by decide +kernel) (by decide +kernel) (by decide) k_13 l_13 rfl (by decide +kernel) (by decide +kernel) (by decide +kernel) ?_
  refine C_putR d_5_41 fq_5_25 rfl k_8 rfl ?_
  refine P_aload_n d_5_44 rfl ?_
  refine P_bipush d_5_45 bi_8 ?_
  refine C_newarr (k := 20) (N := 8) d_5_47 aw_int rfl (by decide) (by decide) (by decide +kernel) (by decide +kernel) (by decide) k_14 l_14 rfl (by decide +kernel) (by decide +kernel) (by decide +kernel) ?_
  refine C_putR d_5_49 fq_5_28 rfl k_8 rfl ?_
  refine P_aload_n d_5_52 rfl ?_
  refine P_bipush d_5_53 bi_8 ?_
  refine C_newarr (k := 20) (N := 8) d_5_55 aw_int rfl (by decide) (by decide) (by decide +kernel) (by decide +kernel) (by decide) k_15 l_15 rfl (by decide +kernel) (by decide +kernel) (by decide +kernel) ?_
  refine C_putR d_5_57 fq_5_31 rfl k_8 rfl ?_
  refine P_aload_n d_5_60 rfl ?_
  refine P_sipush d_5_61 si_256 ?_
  refine C_newarr (k := 20) (N := 256) d_5_64 aw_int rfl (by decide) (by decide) (by decide +kernel) (by decide +kernel) (by decide) k_16 l_16 rfl (by decide +kernel) (by decide +kernel) (by decide +kernel) ?_
  refine C_putR d_5_66 fq_5_34 rfl k_8 rfl ?_
  refine P_aload_n d_5_69 rfl ?_
  refine C_new (ci := 2) d_5_70 rfl cw1_5_37 cw2_2 cw3_2 k_17 rfl (by decide +kernel) (by decide +kernel) (by decide +kernel) ?_
  refine P_dup d_5_73 rfl ?_
  refine P_callIN (as := []) (x := 17) (st := [.ref 17, .ref 8]) d_5_74 nw_5_39 (by decide +kernel) iw_6 mo_6 mr_6 (by decide +kernel) rfl rfl (by decide) (by decide) (by decide +kernel) (by decide +kernel) (by decide +kernel) ?_
  rw [show ent (mL 6) [.ref 17] = [.ref 17] by rw [ml_6]; rfl]
  refine P_aload_n d_6_0 rfl ?_
  refine P_objInit d_6_1 ow_6 (by decide) (by omega) (by decide) ?_
  refine P_aload_n d_6_4 rfl ?_
  refine P_sipush d_6_5 si_270 ?_
  refine C_newarr (k := 20) (N := 270) d_6_8 aw_int rfl (by decide) (by decide) (by decide +kernel) (by decide +kernel) (by decide) k_18 l_18 rfl (by decide +kernel) (by decide +kernel) (by decide +kernel) ?_
  refine C_putR d_6_10 fq_6_9 rfl k_17 rfl ?_
  refine P_aload_n d_6_13 rfl ?_
  refine P_bipush d_6_14 bi_31 ?_
  refine C_newarr (k := 20) (N := 31) d_6_16 aw_int rfl (by decide) (by decide) (by decide +kernel) (by decide +kernel) (by decide) k_19 l_19 rfl (by decide +kernel) (by decide +kernel) (by decide +kernel) ?_
  refine C_putR d_6_18 fq_6_13 rfl k_17 rfl ?_
  refine P_aload_n d_6_21 rfl ?_
  refine P_bipush d_6_22 bi_6 ?_
  refine C_newarr (k := 20) (N := 6) d_6_24 aw_int rfl (by decide) (by decide) (by decide +kernel) (by decide +kernel) (by decide) k_20 l_20 rfl (by decide +kernel) (by decide +kernel) (by decide +kernel) ?_
  refine C_putR d_6_26 fq_6_16 rfl k_17 rfl ?_
  refine P_ret d_6_29 mr_6 (by decide +kernel) (by decide +kernel) ?_
  refine C_putR d_5_77 fq_5_40 rfl k_8 rfl ?_
  refine P_aload_n d_5_80 rfl ?_
  refine P_sipush d_5_81 si_128 ?_
  refine C_newarr (k := 20) (N := 128) d_5_84 aw_int rfl (by decide) (by decide) (by decide +kernel) (by decide +kernel) (by decide) k_21 l_21 rfl (by decide +kernel) (by decide +kernel) (by decide +kernel) ?_
  refine C_putR d_5_86 fq_5_44 rfl k_8 rfl ?_
  refine P_aload_n d_5_89 rfl ?_
  refine P_sipush d_5_90 si_128 ?_
  refine C_newarr (k := 23) (N := 128) d_5_93 aw_boolean rfl (by decide) (by decide) (by decide +kernel) (by decide +kernel) (by decide) k_22 l_22 rfl (by decide +kernel) (by decide +kernel) (by decide +kernel) ?_
  refine C_putR d_5_95 fq_5_47 rfl k_8 rfl ?_
  refine P_ret d_5_98 mr_5 (by decide +kernel) (by decide +kernel) ?_
  refine C_putR d_0_49 fq_0_35 rfl k_0 rfl ?_
  refine P_aload_n d_0_52 rfl ?_
  refine C_new (ci := 4) d_0_53 rfl cw1_0_32 cw2_4 cw3_4 k_23 rfl (by decide +kernel) (by decide +kernel) (by decide +kernel) ?_
  refine P_dup d_0_56 rfl ?_
  refine P_callIN (as := []) (x := 23) (st := [.ref 23, .ref 0]) d_0_57 nw_0_34 (by decide +kernel) iw_5 mo_5 mr_5 (by decide +kernel) rfl rfl (by decide) (by decide) (by decide +kernel) (by decide +kernel) (by decide +kernel) ?_
  rw [show ent (mL 5) [.ref 23] = [.ref 23] by rw [ml_5]; rfl]
  refine P_aload_n d_5_0 rfl ?_
  refine P_objInit d_5_1 ow_5 (by decide) (by omega) (by decide) ?_
  refine P_aload_n d_5_4 rfl ?_
  refine P_bipush d_5_5 bi_8 ?_
  refine C_newarr (k := 21) (N := 8) d_5_7 aw_long rfl (by decide) (by decide) (by decide +kernel) (by decide +kernel) (by decide) k_24 l_24 rfl (by decide +kernel) (by decide +kernel) (by decide +kernel) ?_
  refine C_putR d_5_9 fq_5_11 rfl k_23 rfl ?_
  refine P_aload_n d_5_12 rfl ?_
  refine P_bipush d_5_13 bi_8 ?_
  refine C_newarr (k := 20) (N := 8) d_5_15 aw_int rfl (by decide) (by decide) (by decide +kernel) (by decide +kernel) (by decide) k_25 l_25 rfl (by decide +kernel) (by decide +kernel) (by decide +kernel) ?_
  refine C_putR d_5_17 fq_5_15 rfl k_23 rfl ?_
  refine P_aload_n d_5_20 rfl ?_
  refine P_bipush d_5_21 bi_8 ?_
  refine C_newarr (k := 20) (N := 8) d_5_23 aw_int rfl (by decide) (by decide) (by decide +kernel) (by decide +kernel) (by decide) k_26 l_26 rfl (by decide +kernel) (by decide +kernel) (by decide +kernel) ?_
  refine C_putR d_5_25 fq_5_19 rfl k_23 rfl ?_
  refine P_aload_n d_5_28 rfl ?_
  refine P_bipush d_5_29 bi_8 ?_
  refine C_newarr (k := 20) (N := 8) d_5_31 aw_int rfl (by decide) (by decide) (by decide +kernel) (by decide +kernel) (by decide) k_27 l_27 rfl (by decide +kernel) (by decide +kernel) (by decide +kernel) ?_
  refine C_putR d_5_33 fq_5_22 rfl k_23 rfl ?_
  refine P_aload_n d_5_36 rfl ?_
  refine P_bipush d_5_37 bi_8 ?_
  refine C_newarr (k := 21) (N := 8) d_5_39 aw_long rfl (by decide) (by decide) (by decide +kernel) (by decide +kernel) (by decide) k_28 l_28 rfl (by decide +kernel) (by decide +kernel) (by decide +kernel) ?_
  refine C_putR d_5_41 fq_5_25 rfl k_23 rfl ?_
  refine P_aload_n d_5_44 rfl ?_
  refine P_bipush d_5_45 bi_8 ?_
  refine C_newarr (k := 20) (N := 8) d_5_47 aw_int rfl (by decide) (by decide) (by decide +kernel) (by decide +kernel) (by decide) k_29 l_29 rfl (by decide +kernel) (by decide +kernel) (by decide +kernel) ?_
  refine C_putR d_5_49 fq_5_28 rfl k_23 rfl ?_
  refine P_aload_n d_5_52 rfl ?_
  refine P_bipush d_5_53 bi_8 ?_
  refine C_newarr (k := 20) (N := 8) d_5_55 aw_int rfl (by decide) (by decide) (by decide +kernel) (by decide +kernel) (by decide) k_30 l_30 rfl (by decide +kernel) (by decide +kernel) (by decide +kernel) ?_
  refine C_putR d_5_57 fq_5_31 rfl k_23 rfl ?_
  refine P_aload_n d_5_60 rfl ?_
  refine P_sipush d_5_61 si_256 ?_
  refine C_newarr (k := 20) (N := 256) d_5_64 aw_int rfl (by decide) (by decide) (by decide +kernel) (by decide +kernel) (by decide) k_31 l_31 rfl (by decide +kernel) (by decide +kernel) (by decide +kernel) ?_
  refine C_putR d_5_66 fq_5_34 rfl k_23 rfl ?_
  refine P_aload_n d_5_69 rfl ?_
  refine C_new (ci := 2) d_5_70 rfl cw1_5_37 cw2_2 cw3_2 k_32 rfl (by decide +kernel) (by decide +kernel) (by decide +kernel) ?_
  refine P_dup d_5_73 rfl ?_
  refine P_callIN (as := []) (x := 32) (st := [.ref 32, .ref 23]) d_5_74 nw_5_39 (by decide +kernel) iw_6 mo_6 mr_6 (by decide +kernel) rfl rfl (by decide) (by decide) (by decide +kernel) (by decide +kernel) (by decide +kernel) ?_
  rw [show ent (mL 6) [.ref 32] = [.ref 32] by rw [ml_6]; rfl]
  refine P_aload_n d_6_0 rfl ?_
  refine P_objInit d_6_1 ow_6 (by decide) (by omega) (by decide) ?_
  refine P_aload_n d_6_4 rfl ?_
  refine P_sipush d_6_5 si_270 ?_
  refine C_newarr (k := 20) (N := 270) d_6_8 aw_int rfl (by decide) (by decide) (by decide +kernel) (by decide +kernel) (by decide) k_33 l_33 rfl (by decide +kernel) (by decide +kernel) (by decide +kernel) ?_
  refine C_putR d_6_10 fq_6_9 rfl k_32 rfl ?_
  refine P_aload_n d_6_13 rfl ?_
  refine P_bipush d_6_14 bi_31 ?_
  refine C_newarr (k := 20) (N := 31) d_6_16 aw_int rfl (by decide) (by decide) (by decide +kernel) (by decide +kernel) (by decide) k_34 l_34 rfl (by decide +kernel) (by decide +kernel) (by decide +kernel) ?_
  refine C_putR d_6_18 fq_6_13 rfl k_32 rfl ?_
  refine P_aload_n d_6_21 rfl ?_
  refine P_bipush d_6_22 bi_6 ?_
  refine C_newarr (k := 20) (N := 6) d_6_24 aw_int rfl (by decide) (by decide) (by decide +kernel) (by decide +kernel) (by decide) k_35 l_35 rfl (by decide +kernel) (by decide +kernel) (by decide +kernel) ?_
  refine C_putR d_6_26 fq_6_16 rfl k_32 rfl ?_
  refine P_ret d_6_29 mr_6 (by decide +kernel) (by decide +kernel) ?_
  refine C_putR d_5_77 fq_5_40 rfl k_23 rfl ?_
  refine P_aload_n d_5_80 rfl ?_
  refine P_sipush d_5_81 si_128 ?_
  refine C_newarr (k := 20) (N := 128) d_5_84 aw_int rfl (by decide) (by decide) (by decide +kernel) (by decide +kernel) (by decide) k_36 l_36 rfl (by decide +kernel) (by decide +kernel) (by decide +kernel) ?_
  refine C_putR d_5_86 fq_5_44 rfl k_23 rfl ?_
  refine P_aload_n d_5_89 rfl ?_
  refine P_sipush d_5_90 si_128 ?_
  refine C_newarr (k := 23) (N := 128) d_5_93 aw_boolean rfl (by decide) (by decide) (by decide +kernel) (by decide +kernel) (by decide) k_37 l_37 rfl (by decide +kernel) (by decide +kernel) (by decide +kernel) ?_
  refine C_putR d_5_95 fq_5_47 rfl k_23 rfl ?_
  refine P_ret d_5_98 mr_5 (by decide +kernel) (by decide +kernel) ?_
  refine C_putR d_0_60 fq_0_39 rfl k_0 rfl ?_
  refine P_aload_n d_0_63 rfl ?_
  refine C_new (ci := 0) d_0_64 rfl cw1_0_42 cw2_0 cw3_0 k_38 rfl (by decide +kernel) (by decide +kernel) (by decide +kernel) ?_
  refine P_dup d_0_67 rfl ?_
  refine P_callI (as := []) (x := 38) (st := [.ref 38, .ref 0]) d_0_68 lb_0_44 iw_7 mo_7 mr_7 (by decide +kernel) rfl rfl (by decide) (by decide) (by decide +kernel) (by decide +kernel) (by decide +kernel) ?_
  rw [show ent (mL 7) [.ref 38] = [.ref 38, ux] by rw [ml_7]; rfl]
  refine P_aload_n d_7_0 rfl ?_
  refine P_objInit d_7_1 ow_7 (by decide) (by omega) (by decide) ?_
  refine P_aload_n d_7_4 rfl ?_
  refine P_bipush d_7_5 bi_41 ?_
  refine C_newref (N := 41) d_7_7 cw1_7_9 (by decide +kernel) (by decide +kernel) (by decide) k_39 l_39 rfl (by decide +kernel) (by decide +kernel) (by decide +kernel) ?_
  refine C_putR d_7_10 fq_7_11 rfl k_38 rfl ?_
  refine P_iconst d_7_13 ic_0 ?_
  refine C_istore_n d_7_14 ml_7 rfl rfl ?_
  refine P_iload_n d_7_15 rfl ?_
  refine P_bipush d_7_16 bi_40 ?_
  refine P_icmp_gt (tgt := 40) d_7_18 rfl (fun q => absurd q (by decide +kernel)) (fun _ => ?_)
  refine P_aload_n d_7_21 rfl ?_
  refine C_getR (v := 39) d_7_22 (by rw [cn_7]; exact fk_CordLoft_Acts_11.1) rfl k_38 rfl (by decide +kernel) ?_
  refine P_iload_n d_7_25 rfl ?_
  refine C_new (ci := 8) d_7_26 rfl cw1_7_9 cw2_8 cw3_8 k_40 rfl (by decide +kernel) (by decide +kernel) (by decide +kernel) ?_
  refine P_dup d_7_29 rfl ?_
  refine P_callIN (as := []) (x := 40) (st := [.ref 40, .int 0, .ref 39]) d_7_30 nw_7_15 (by decide +kernel) iw_8 mo_8 mr_8 (by decide +kernel) rfl rfl (by decide) (by decide) (by decide +kernel) (by decide +kernel) (by decide +kernel) ?_
  rw [show ent (mL 8) [.ref 40] = [.ref 40] by rw [ml_8]; rfl]
  refine P_aload_n d_8_0 rfl ?_
  refine P_objInit d_8_1 ow_8 (by decide) (by omega) (by decide) ?_
  refine P_ret d_8_4 mr_8 (by decide +kernel) (by decide +kernel) ?_
  refine C_aast (j := 0) d_7_33 k_39 rfl (by decide +kernel) (by decide +kernel) k_40 rfl ?_
  refine C_iinc (v := 1) d_7_34 rfl (by decide +kernel) ml_7 rfl rfl ?_
  refine P_goto (tgt := 15) d_7_37 rfl ?_
  refine P_iload_n d_7_15 rfl ?_
  refine P_bipush d_7_16 bi_40 ?_
  refine P_icmp_gt (tgt := 40) d_7_18 rfl (fun q => absurd q (by decide +kernel)) (fun _ => ?_)
  refine P_aload_n d_7_21 rfl ?_
  refine C_getR (v := 39) d_7_22 (by rw [cn_7]; exact fk_CordLoft_Acts_11.1) rfl k_38 rfl (by decide +kernel) ?_
  refine P_iload_n d_7_25 rfl ?_
  refine C_new (ci := 8) d_7_26 rfl cw1_7_9 cw2_8 cw3_8 k_41 rfl (by decide +kernel) (by decide +kernel) (by decide +kernel) ?_
  refine P_dup d_7_29 rfl ?_
  refine P_callIN (as := []) (x := 41) (st := [.ref 41, .int 1, .ref 39]) d_7_30 nw_7_15 (by decide +kernel) iw_8 mo_8 mr_8 (by decide +kernel) rfl rfl (by decide) (by decide) (by decide +kernel) (by decide +kernel) (by decide +kernel) ?_
  rw [show ent (mL 8) [.ref 41] = [.ref 41] by rw [ml_8]; rfl]
  refine P_aload_n d_8_0 rfl ?_
  refine P_objInit d_8_1 ow_8 (by decide) (by omega) (by decide) ?_
  refine P_ret d_8_4 mr_8 (by decide +kernel) (by decide +kernel) ?_
  refine C_aast (j := 1) d_7_33 k_39 rfl (by decide +kernel) (by decide +kernel) k_41 rfl ?_
  refine C_iinc (v := 2) d_7_34 rfl (by decide +kernel) ml_7 rfl rfl ?_
  refine P_goto (tgt := 15) d_7_37 rfl ?_
  refine P_iload_n d_7_15 rfl ?_
  refine P_bipush d_7_16 bi_40 ?_
  refine P_icmp_gt (tgt := 40) d_7_18 rfl (fun q => absurd q (by decide +kernel)) (fun _ => ?_)
  refine P_aload_n d_7_21 rfl ?_
  refine C_getR (v := 39) d_7_22 (by rw [cn_7]; exact fk_CordLoft_Acts_11.1) rfl k_38 rfl (by decide +kernel) ?_
  refine P_iload_n d_7_25 rfl ?_
  refine C_new (ci := 8) d_7_26 rfl cw1_7_9 cw2_8 cw3_8 k_42 rfl (by decide +kernel) (by decide +kernel) (by decide +kernel) ?_
  refine P_dup d_7_29 rfl ?_
  refine P_callIN (as := []) (x := 42) (st := [.ref 42, .int 2, .ref 39]) d_7_30 nw_7_15 (by decide +kernel) iw_8 mo_8 mr_8 (by decide +kernel) rfl rfl (by decide) (by decide) (by decide +kernel) (by decide +kernel) (by decide +kernel) ?_
  rw [show ent (mL 8) [.ref 42] = [.ref 42] by rw [ml_8]; rfl]
  refine P_aload_n d_8_0 rfl ?_
  refine P_objInit d_8_1 ow_8 (by decide) (by omega) (by decide) ?_
  refine P_ret d_8_4 mr_8 (by decide +kernel) (by decide +kernel) ?_
  refine C_aast (j := 2) d_7_33 k_39 rfl (by decide +kernel) (by decide +kernel) k_42 rfl ?_
  refine C_iinc (v := 3) d_7_34 rfl (by decide +kernel) ml_7 rfl rfl ?_
  refine P_goto (tgt := 15) d_7_37 rfl ?_
  refine P_iload_n d_7_15 rfl ?_
  refine P_bipush d_7_16 bi_40 ?_
  refine P_icmp_gt (tgt := 40) d_7_18 rfl (fun q => absurd q (by decide +kernel)) (fun _ => ?_)
  refine P_aload_n d_7_21 rfl ?_
  refine C_getR (v := 39) d_7_22 (by rw [cn_7]; exact fk_CordLoft_Acts_11.1) rfl k_38 rfl (by decide +kernel) ?_
  refine P_iload_n d_7_25 rfl ?_
  refine C_new (ci := 8) d_7_26 rfl cw1_7_9 cw2_8 cw3_8 k_43 rfl (by decide +kernel) (by decide +kernel) (by decide +kernel) ?_
  refine P_dup d_7_29 rfl ?_
  refine P_callIN (as := []) (x := 43) (st := [.ref 43, .int 3, .ref 39]) d_7_30 nw_7_15 (by decide +kernel) iw_8 mo_8 mr_8 (by decide +kernel) rfl rfl (by decide) (by decide) (by decide +kernel) (by decide +kernel) (by decide +kernel) ?_
  rw [show ent (mL 8) [.ref 43] = [.ref 43] by rw [ml_8]; rfl]
  refine P_aload_n d_8_0 rfl ?_
  refine P_objInit d_8_1 ow_8 (by decide) (by omega) (by decide) ?_
  refine P_ret d_8_4 mr_8 (by decide +kernel) (by decide +kernel) ?_
  refine C_aast (j := 3) d_7_33 k_39 rfl (by decide +kernel) (by decide +kernel) k_43 rfl ?_
  refine C_iinc (v := 4) d_7_34 rfl (by decide +kernel) ml_7 rfl rfl ?_
  refine P_goto (tgt := 15) d_7_37 rfl ?_
  refine P_iload_n d_7_15 rfl ?_
  refine P_bipush d_7_16 bi_40 ?_
  refine P_icmp_gt (tgt := 40) d_7_18 rfl (fun q => absurd q (by decide +kernel)) (fun _ => ?_)
  refine P_aload_n d_7_21 rfl ?_
  refine C_getR (v := 39) d_7_22 (by rw [cn_7]; exact fk_CordLoft_Acts_11.1) rfl k_38 rfl (by decide +kernel) ?_
  refine P_iload_n d_7_25 rfl ?_
  refine C_new (ci := 8) d_7_26 rfl cw1_7_9 cw2_8 cw3_8 k_44 rfl (by decide +kernel) (by decide +kernel) (by decide +kernel) ?_
  refine P_dup d_7_29 rfl ?_
  refine P_callIN (as := []) (x := 44) (st := [.ref 44, .int 4, .ref 39]) d_7_30 nw_7_15 (by decide +kernel) iw_8 mo_8 mr_8 (by decide +kernel) rfl rfl (by decide) (by decide) (by decide +kernel) (by decide +kernel) (by decide +kernel) ?_
  rw [show ent (mL 8) [.ref 44] = [.ref 44] by rw [ml_8]; rfl]
  refine P_aload_n d_8_0 rfl ?_
  refine P_objInit d_8_1 ow_8 (by decide) (by omega) (by decide) ?_
  refine P_ret d_8_4 mr_8 (by decide +kernel) (by decide +kernel) ?_
  refine C_aast (j := 4) d_7_33 k_39 rfl (by decide +kernel) (by decide +kernel) k_44 rfl ?_
  refine C_iinc (v := 5) d_7_34 rfl (by decide +kernel) ml_7 rfl rfl ?_
  refine P_goto (tgt := 15) d_7_37 rfl ?_
  refine P_iload_n d_7_15 rfl ?_
  refine P_bipush d_7_16 bi_40 ?_
  refine P_icmp_gt (tgt := 40) d_7_18 rfl (fun q => absurd q (by decide +kernel)) (fun _ => ?_)
  refine P_aload_n d_7_21 rfl ?_
  refine C_getR (v := 39) d_7_22 (by rw [cn_7]; exact fk_CordLoft_Acts_11.1) rfl k_38 rfl (by decide +kernel) ?_
  refine P_iload_n d_7_25 rfl ?_
  refine C_new (ci := 8) d_7_26 rfl cw1_7_9 cw2_8 cw3_8 k_45 rfl (by decide +kernel) (by decide +kernel) (by decide +kernel) ?_
  refine P_dup d_7_29 rfl ?_
  refine P_callIN (as := []) (x := 45) (st := [.ref 45, .int 5, .ref 39]) d_7_30 nw_7_15 (by decide +kernel) iw_8 mo_8 mr_8 (by decide +kernel) rfl rfl (by decide) (by decide) (by decide +kernel) (by decide +kernel) (by decide +kernel) ?_
  rw [show ent (mL 8) [.ref 45] = [.ref 45] by rw [ml_8]; rfl]
  refine P_aload_n d_8_0 rfl ?_
  refine P_objInit d_8_1 ow_8 (by decide) (by omega) (by decide) ?_
  refine P_ret d_8_4 mr_8 (by decide +kernel) (by decide +kernel) ?_
  refine C_aast (j := 5) d_7_33 k_39 rfl (by decide +kernel) (by decide +kernel) k_45 rfl ?_
  refine C_iinc (v := 6) d_7_34 rfl (by decide +kernel) ml_7 rfl rfl ?_
  refine P_goto (tgt := 15) d_7_37 rfl ?_
  refine P_iload_n d_7_15 rfl ?_
  refine P_bipush d_7_16 bi_40 ?_
  refine P_icmp_gt (tgt := 40) d_7_18 rfl (fun q => absurd q (by decide +kernel)) (fun _ => ?_)
  refine P_aload_n d_7_21 rfl ?_
  refine C_getR (v := 39) d_7_22 (by rw [cn_7]; exact fk_CordLoft_Acts_11.1) rfl k_38 rfl (by decide +kernel) ?_
  refine P_iload_n d_7_25 rfl ?_
  refine C_new (ci := 8) d_7_26 rfl cw1_7_9 cw2_8 cw3_8 k_46 rfl (by decide +kernel) (by decide +kernel) (by decide +kernel) ?_
  refine P_dup d_7_29 rfl ?_
  refine P_callIN (as := []) (x := 46) (st := [.ref 46, .int 6, .ref 39]) d_7_30 nw_7_15 (by decide +kernel) iw_8 mo_8 mr_8 (by decide +kernel) rfl rfl (by decide) (by decide) (by decide +kernel) (by decide +kernel) (by decide +kernel) ?_
  rw [show ent (mL 8) [.ref 46] = [.ref 46] by rw [ml_8]; rfl]
  refine P_aload_n d_8_0 rfl ?_
  refine P_objInit d_8_1 ow_8 (by decide) (by omega) (by decide) ?_
  refine P_ret d_8_4 mr_8 (by decide +kernel) (by decide +kernel) ?_
  refine C_aast (j := 6) d_7_33 k_39 rfl (by decide +kernel) (by decide +kernel) k_46 rfl ?_
  refine C_iinc (v := 7) d_7_34 rfl (by decide +kernel) ml_7 rfl rfl ?_
  refine P_goto (tgt := 15) d_7_37 rfl ?_
  refine P_iload_n d_7_15 rfl ?_
  refine P_bipush d_7_16 bi_40 ?_
  refine P_icmp_gt (tgt := 40) d_7_18 rfl (fun q => absurd q (by decide +kernel)) (fun _ => ?_)
  refine P_aload_n d_7_21 rfl ?_
  refine C_getR (v := 39) d_7_22 (by rw [cn_7]; exact fk_CordLoft_Acts_11.1) rfl k_38 rfl (by decide +kernel) ?_
  refine P_iload_n d_7_25 rfl ?_
  refine C_new (ci := 8) d_7_26 rfl cw1_7_9 cw2_8 cw3_8 k_47 rfl (by decide +kernel) (by decide +kernel) (by decide +kernel) ?_
  refine P_dup d_7_29 rfl ?_
  refine P_callIN (as := []) (x := 47) (st := [.ref 47, .int 7, .ref 39]) d_7_30 nw_7_15 (by decide +kernel) iw_8 mo_8 mr_8 (by decide +kernel) rfl rfl (by decide) (by decide) (by decide +kernel) (by decide +kernel) (by decide +kernel) ?_
  rw [show ent (mL 8) [.ref 47] = [.ref 47] by rw [ml_8]; rfl]
  refine P_aload_n d_8_0 rfl ?_
  refine P_objInit d_8_1 ow_8 (by decide) (by omega) (by decide) ?_
  refine P_ret d_8_4 mr_8 (by decide +kernel) (by decide +kernel) ?_
  refine C_aast (j := 7) d_7_33 k_39 rfl (by decide +kernel) (by decide +kernel) k_47 rfl ?_
  refine C_iinc (v := 8) d_7_34 rfl (by decide +kernel) ml_7 rfl rfl ?_
  refine P_goto (tgt := 15) d_7_37 rfl ?_
  refine P_iload_n d_7_15 rfl ?_
  refine P_bipush d_7_16 bi_40 ?_
  refine P_icmp_gt (tgt := 40) d_7_18 rfl (fun q => absurd q (by decide +kernel)) (fun _ => ?_)
  refine P_aload_n d_7_21 rfl ?_
  refine C_getR (v := 39) d_7_22 (by rw [cn_7]; exact fk_CordLoft_Acts_11.1) rfl k_38 rfl (by decide +kernel) ?_
  refine P_iload_n d_7_25 rfl ?_
  refine C_new (ci := 8) d_7_26 rfl cw1_7_9 cw2_8 cw3_8 k_48 rfl (by decide +kernel) (by decide +kernel) (by decide +kernel) ?_
  refine P_dup d_7_29 rfl ?_
  refine P_callIN (as := []) (x := 48) (st := [.ref 48, .int 8, .ref 39]) d_7_30 nw_7_15 (by decide +kernel) iw_8 mo_8 mr_8 (by decide +kernel) rfl rfl (by decide) (by decide) (by decide +kernel) (by decide +kernel) (by decide +kernel) ?_
  rw [show ent (mL 8) [.ref 48] = [.ref 48] by rw [ml_8]; rfl]
  refine P_aload_n d_8_0 rfl ?_
  refine P_objInit d_8_1 ow_8 (by decide) (by omega) (by decide) ?_
  refine P_ret d_8_4 mr_8 (by decide +kernel) (by decide +kernel) ?_
  refine C_aast (j := 8) d_7_33 k_39 rfl (by decide +kernel) (by decide +kernel) k_48 rfl ?_
  refine C_iinc (v := 9) d_7_34 rfl (by decide +kernel) ml_7 rfl rfl ?_
  refine P_goto (tgt := 15) d_7_37 rfl ?_
  refine P_iload_n d_7_15 rfl ?_
  refine P_bipush d_7_16 bi_40 ?_
  refine P_icmp_gt (tgt := 40) d_7_18 rfl (fun q => absurd q (by decide +kernel)) (fun _ => ?_)
  refine P_aload_n d_7_21 rfl ?_
  refine C_getR (v := 39) d_7_22 (by rw [cn_7]; exact fk_CordLoft_Acts_11.1) rfl k_38 rfl (by decide +kernel) ?_
  refine P_iload_n d_7_25 rfl ?_
  refine C_new (ci := 8) d_7_26 rfl cw1_7_9 cw2_8 cw3_8 k_49 rfl (by decide +kernel) (by decide +kernel) (by decide +kernel) ?_
  refine P_dup d_7_29 rfl ?_
  refine P_callIN (as := []) (x := 49) (st := [.ref 49, .int 9, .ref 39]) d_7_30 nw_7_15 (by decide +kernel) iw_8 mo_8 mr_8 (by decide +kernel) rfl rfl (by decide) (by decide) (by decide +kernel) (by decide +kernel) (by decide +kernel) ?_
  rw [show ent (mL 8) [.ref 49] = [.ref 49] by rw [ml_8]; rfl]
  refine P_aload_n d_8_0 rfl ?_
  refine P_objInit d_8_1 ow_8 (by decide) (by omega) (by decide) ?_
  refine P_ret d_8_4 mr_8 (by decide +kernel) (by decide +kernel) ?_
  refine C_aast (j := 9) d_7_33 k_39 rfl (by decide +kernel) (by decide +kernel) k_49 rfl ?_
  refine C_iinc (v := 10) d_7_34 rfl (by decide +kernel) ml_7 rfl rfl ?_
  refine P_goto (tgt := 15) d_7_37 rfl ?_
  refine P_iload_n d_7_15 rfl ?_
  refine P_bipush d_7_16 bi_40 ?_
  refine P_icmp_gt (tgt := 40) d_7_18 rfl (fun q => absurd q (by decide +kernel)) (fun _ => ?_)
  refine P_aload_n d_7_21 rfl ?_
  refine C_getR (v := 39) d_7_22 (by rw [cn_7]; exact fk_CordLoft_Acts_11.1) rfl k_38 rfl (by decide +kernel) ?_
  refine P_iload_n d_7_25 rfl ?_
  refine C_new (ci := 8) d_7_26 rfl cw1_7_9 cw2_8 cw3_8 k_50 rfl (by decide +kernel) (by decide +kernel) (by decide +kernel) ?_
  refine P_dup d_7_29 rfl ?_
  refine P_callIN (as := []) (x := 50) (st := [.ref 50, .int 10, .ref 39]) d_7_30 nw_7_15 (by decide +kernel) iw_8 mo_8 mr_8 (by decide +kernel) rfl rfl (by decide) (by decide) (by decide +kernel) (by decide +kernel) (by decide +kernel) ?_
  rw [show ent (mL 8) [.ref 50] = [.ref 50] by rw [ml_8]; rfl]
  refine P_aload_n d_8_0 rfl ?_
  refine P_objInit d_8_1 ow_8 (by decide) (by omega) (by decide) ?_
  refine P_ret d_8_4 mr_8 (by decide +kernel) (by decide +kernel) ?_
  refine C_aast (j := 10) d_7_33 k_39 rfl (by decide +kernel) (by decide +kernel) k_50 rfl ?_
  refine C_iinc (v := 11) d_7_34 rfl (by decide +kernel) ml_7 rfl rfl ?_
  refine P_goto (tgt := 15) d_7_37 rfl ?_
  refine P_iload_n d_7_15 rfl ?_
  refine P_bipush d_7_16 bi_40 ?_
  refine P_icmp_gt (tgt := 40) d_7_18 rfl (fun q => absurd q (by decide +kernel)) (fun _ => ?_)
  refine P_aload_n d_7_21 rfl ?_
  refine C_getR (v := 39) d_7_22 (by rw [cn_7]; exact fk_CordLoft_Acts_11.1) rfl k_38 rfl (by decide +kernel) ?_
  refine P_iload_n d_7_25 rfl ?_
  refine C_new (ci := 8) d_7_26 rfl cw1_7_9 cw2_8 cw3_8 k_51 rfl (by decide +kernel) (by decide +kernel) (by decide +kernel) ?_
  refine P_dup d_7_29 rfl ?_
  refine P_callIN (as := []) (x := 51) (st := [.ref 51, .int 11, .ref 39]) d_7_30 nw_7_15 (by decide +kernel) iw_8 mo_8 mr_8 (by decide +kernel) rfl rfl (by decide) (by decide) (by decide +kernel) (by decide +kernel) (by decide +kernel) ?_
  rw [show ent (mL 8) [.ref 51] = [.ref 51] by rw [ml_8]; rfl]
  refine P_aload_n d_8_0 rfl ?_
  refine P_objInit d_8_1 ow_8 (by decide) (by omega) (by decide) ?_
  refine P_ret d_8_4 mr_8 (by decide +kernel) (by decide +kernel) ?_
  refine C_aast (j := 11) d_7_33 k_39 rfl (by decide +kernel) (by decide +kernel) k_51 rfl ?_
  refine C_iinc (v := 12) d_7_34 rfl (by decide +kernel) ml_7 rfl rfl ?_
  refine P_goto (tgt := 15) d_7_37 rfl ?_
  refine P_iload_n d_7_15 rfl ?_
  refine P_bipush d_7_16 bi_40 ?_
  refine P_icmp_gt (tgt := 40) d_7_18 rfl (fun q => absurd q (by decide +kernel)) (fun _ => ?_)
  refine P_aload_n d_7_21 rfl ?_
  refine C_getR (v := 39) d_7_22 (by rw [cn_7]; exact fk_CordLoft_Acts_11.1) rfl k_38 rfl (by decide +kernel) ?_
  refine P_iload_n d_7_25 rfl ?_
  refine C_new (ci := 8) d_7_26 rfl cw1_7_9 cw2_8 cw3_8 k_52 rfl (by decide +kernel) (by decide +kernel) (by decide +kernel) ?_
  refine P_dup d_7_29 rfl ?_
  refine P_callIN (as := []) (x := 52) (st := [.ref 52, .int 12, .ref 39]) d_7_30 nw_7_15 (by decide +kernel) iw_8 mo_8 mr_8 (by decide +kernel) rfl rfl (by decide) (by decide) (by decide +kernel) (by decide +kernel) (by decide +kernel) ?_
  rw [show ent (mL 8) [.ref 52] = [.ref 52] by rw [ml_8]; rfl]
  refine P_aload_n d_8_0 rfl ?_
  refine P_objInit d_8_1 ow_8 (by decide) (by omega) (by decide) ?_
  refine P_ret d_8_4 mr_8 (by decide +kernel) (by decide +kernel) ?_
  refine C_aast (j := 12) d_7_33 k_39 rfl (by decide +kernel) (by decide +kernel) k_52 rfl ?_
  refine C_iinc (v := 13) d_7_34 rfl (by decide +kernel) ml_7 rfl rfl ?_
  refine P_goto (tgt := 15) d_7_37 rfl ?_
  refine P_iload_n d_7_15 rfl ?_
  refine P_bipush d_7_16 bi_40 ?_
  refine P_icmp_gt (tgt := 40) d_7_18 rfl (fun q => absurd q (by decide +kernel)) (fun _ => ?_)
  refine P_aload_n d_7_21 rfl ?_
  refine C_getR (v := 39) d_7_22 (by rw [cn_7]; exact fk_CordLoft_Acts_11.1) rfl k_38 rfl (by decide +kernel) ?_
  refine P_iload_n d_7_25 rfl ?_
  refine C_new (ci := 8) d_7_26 rfl cw1_7_9 cw2_8 cw3_8 k_53 rfl (by decide +kernel) (by decide +kernel) (by decide +kernel) ?_
  refine P_dup d_7_29 rfl ?_
  refine P_callIN (as := []) (x := 53) (st := [.ref 53, .int 13, .ref 39]) d_7_30 nw_7_15 (by decide +kernel) iw_8 mo_8 mr_8 (by decide +kernel) rfl rfl (by decide) (by decide) (by decide +kernel) (by decide +kernel) (by decide +kernel) ?_
  rw [show ent (mL 8) [.ref 53] = [.ref 53] by rw [ml_8]; rfl]
  refine P_aload_n d_8_0 rfl ?_
  refine P_objInit d_8_1 ow_8 (by decide) (by omega) (by decide) ?_
  refine P_ret d_8_4 mr_8 (by decide +kernel) (by decide +kernel) ?_
  refine C_aast (j := 13) d_7_33 k_39 rfl (by decide +kernel) (by decide +kernel) k_53 rfl ?_
  refine C_iinc (v := 14) d_7_34 rfl (by decide +kernel) ml_7 rfl rfl ?_
  refine P_goto (tgt := 15) d_7_37 rfl ?_
  refine P_iload_n d_7_15 rfl ?_
  refine P_bipush d_7_16 bi_40 ?_
  refine P_icmp_gt (tgt := 40) d_7_18 rfl (fun q => absurd q (by decide +kernel)) (fun _ => ?_)
  refine P_aload_n d_7_21 rfl ?_
  refine C_getR (v := 39) d_7_22 (by rw [cn_7]; exact fk_CordLoft_Acts_11.1) rfl k_38 rfl (by decide +kernel) ?_
  refine P_iload_n d_7_25 rfl ?_
  refine C_new (ci := 8) d_7_26 rfl cw1_7_9 cw2_8 cw3_8 k_54 rfl (by decide +kernel) (by decide +kernel) (by decide +kernel) ?_
  refine P_dup d_7_29 rfl ?_
  refine P_callIN (as := []) (x := 54) (st := [.ref 54, .int 14, .ref 39]) d_7_30 nw_7_15 (by decide +kernel) iw_8 mo_8 mr_8 (by decide +kernel) rfl rfl (by decide) (by decide) (by decide +kernel) (by decide +kernel) (by decide +kernel) ?_
  rw [show ent (mL 8) [.ref 54] = [.ref 54] by rw [ml_8]; rfl]
  refine P_aload_n d_8_0 rfl ?_
  refine P_objInit d_8_1 ow_8 (by decide) (by omega) (by decide) ?_
  refine P_ret d_8_4 mr_8 (by decide +kernel) (by decide +kernel) ?_
  refine C_aast (j := 14) d_7_33 k_39 rfl (by decide +kernel) (by decide +kernel) k_54 rfl ?_
  refine C_iinc (v := 15) d_7_34 rfl (by decide +kernel) ml_7 rfl rfl ?_
  refine P_goto (tgt := 15) d_7_37 rfl ?_
  refine P_iload_n d_7_15 rfl ?_
  refine P_bipush d_7_16 bi_40 ?_
  refine P_icmp_gt (tgt := 40) d_7_18 rfl (fun q => absurd q (by decide +kernel)) (fun _ => ?_)
  refine P_aload_n d_7_21 rfl ?_
  refine C_getR (v := 39) d_7_22 (by rw [cn_7]; exact fk_CordLoft_Acts_11.1) rfl k_38 rfl (by decide +kernel) ?_
  refine P_iload_n d_7_25 rfl ?_
  refine C_new (ci := 8) d_7_26 rfl cw1_7_9 cw2_8 cw3_8 k_55 rfl (by decide +kernel) (by decide +kernel) (by decide +kernel) ?_
  refine P_dup d_7_29 rfl ?_
  refine P_callIN (as := []) (x := 55) (st := [.ref 55, .int 15, .ref 39]) d_7_30 nw_7_15 (by decide +kernel) iw_8 mo_8 mr_8 (by decide +kernel) rfl rfl (by decide) (by decide) (by decide +kernel) (by decide +kernel) (by decide +kernel) ?_
  rw [show ent (mL 8) [.ref 55] = [.ref 55] by rw [ml_8]; rfl]
  refine P_aload_n d_8_0 rfl ?_
  refine P_objInit d_8_1 ow_8 (by decide) (by omega) (by decide) ?_
  refine P_ret d_8_4 mr_8 (by decide +kernel) (by decide +kernel) ?_
  refine C_aast (j := 15) d_7_33 k_39 rfl (by decide +kernel) (by decide +kernel) k_55 rfl ?_
  refine C_iinc (v := 16) d_7_34 rfl (by decide +kernel) ml_7 rfl rfl ?_
  refine P_goto (tgt := 15) d_7_37 rfl ?_
  refine P_iload_n d_7_15 rfl ?_
  refine P_bipush d_7_16 bi_40 ?_
  refine P_icmp_gt (tgt := 40) d_7_18 rfl (fun q => absurd q (by decide +kernel)) (fun _ => ?_)
  refine P_aload_n d_7_21 rfl ?_
  refine C_getR (v := 39) d_7_22 (by rw [cn_7]; exact fk_CordLoft_Acts_11.1) rfl k_38 rfl (by decide +kernel) ?_
  refine P_iload_n d_7_25 rfl ?_
  refine C_new (ci := 8) d_7_26 rfl cw1_7_9 cw2_8 cw3_8 k_56 rfl (by decide +kernel) (by decide +kernel) (by decide +kernel) ?_
  refine P_dup d_7_29 rfl ?_
  refine P_callIN (as := []) (x := 56) (st := [.ref 56, .int 16, .ref 39]) d_7_30 nw_7_15 (by decide +kernel) iw_8 mo_8 mr_8 (by decide +kernel) rfl rfl (by decide) (by decide) (by decide +kernel) (by decide +kernel) (by decide +kernel) ?_
  rw [show ent (mL 8) [.ref 56] = [.ref 56] by rw [ml_8]; rfl]
  refine P_aload_n d_8_0 rfl ?_
  refine P_objInit d_8_1 ow_8 (by decide) (by omega) (by decide) ?_
  refine P_ret d_8_4 mr_8 (by decide +kernel) (by decide +kernel) ?_
  refine C_aast (j := 16) d_7_33 k_39 rfl (by decide +kernel) (by decide +kernel) k_56 rfl ?_
  refine C_iinc (v := 17) d_7_34 rfl (by decide +kernel) ml_7 rfl rfl ?_
  refine P_goto (tgt := 15) d_7_37 rfl ?_
  refine P_iload_n d_7_15 rfl ?_
  refine P_bipush d_7_16 bi_40 ?_
  refine P_icmp_gt (tgt := 40) d_7_18 rfl (fun q => absurd q (by decide +kernel)) (fun _ => ?_)
  refine P_aload_n d_7_21 rfl ?_
  refine C_getR (v := 39) d_7_22 (by rw [cn_7]; exact fk_CordLoft_Acts_11.1) rfl k_38 rfl (by decide +kernel) ?_
  refine P_iload_n d_7_25 rfl ?_
  refine C_new (ci := 8) d_7_26 rfl cw1_7_9 cw2_8 cw3_8 k_57 rfl (by decide +kernel) (by decide +kernel) (by decide +kernel) ?_
  refine P_dup d_7_29 rfl ?_
  refine P_callIN (as := []) (x := 57) (st := [.ref 57, .int 17, .ref 39]) d_7_30 nw_7_15 (by decide +kernel) iw_8 mo_8 mr_8 (by decide +kernel) rfl rfl (by decide) (by decide) (by decide +kernel) (by decide +kernel) (by decide +kernel) ?_
  rw [show ent (mL 8) [.ref 57] = [.ref 57] by rw [ml_8]; rfl]
  refine P_aload_n d_8_0 rfl ?_
  refine P_objInit d_8_1 ow_8 (by decide) (by omega) (by decide) ?_
  refine P_ret d_8_4 mr_8 (by decide +kernel) (by decide +kernel) ?_
  refine C_aast (j := 17) d_7_33 k_39 rfl (by decide +kernel) (by decide +kernel) k_57 rfl ?_
  refine C_iinc (v := 18) d_7_34 rfl (by decide +kernel) ml_7 rfl rfl ?_
  refine P_goto (tgt := 15) d_7_37 rfl ?_
  refine P_iload_n d_7_15 rfl ?_
  refine P_bipush d_7_16 bi_40 ?_
  refine P_icmp_gt (tgt := 40) d_7_18 rfl (fun q => absurd q (by decide +kernel)) (fun _ => ?_)
  refine P_aload_n d_7_21 rfl ?_
  refine C_getR (v := 39) d_7_22 (by rw [cn_7]; exact fk_CordLoft_Acts_11.1) rfl k_38 rfl (by decide +kernel) ?_
  refine P_iload_n d_7_25 rfl ?_
  refine C_new (ci := 8) d_7_26 rfl cw1_7_9 cw2_8 cw3_8 k_58 rfl (by decide +kernel) (by decide +kernel) (by decide +kernel) ?_
  refine P_dup d_7_29 rfl ?_
  refine P_callIN (as := []) (x := 58) (st := [.ref 58, .int 18, .ref 39]) d_7_30 nw_7_15 (by decide +kernel) iw_8 mo_8 mr_8 (by decide +kernel) rfl rfl (by decide) (by decide) (by decide +kernel) (by decide +kernel) (by decide +kernel) ?_
  rw [show ent (mL 8) [.ref 58] = [.ref 58] by rw [ml_8]; rfl]
  refine P_aload_n d_8_0 rfl ?_
  refine P_objInit d_8_1 ow_8 (by decide) (by omega) (by decide) ?_
  refine P_ret d_8_4 mr_8 (by decide +kernel) (by decide +kernel) ?_
  refine C_aast (j := 18) d_7_33 k_39 rfl (by decide +kernel) (by decide +kernel) k_58 rfl ?_
  refine C_iinc (v := 19) d_7_34 rfl (by decide +kernel) ml_7 rfl rfl ?_
  refine P_goto (tgt := 15) d_7_37 rfl ?_
  refine P_iload_n d_7_15 rfl ?_
  refine P_bipush d_7_16 bi_40 ?_
  refine P_icmp_gt (tgt := 40) d_7_18 rfl (fun q => absurd q (by decide +kernel)) (fun _ => ?_)
  refine P_aload_n d_7_21 rfl ?_
  refine C_getR (v := 39) d_7_22 (by rw [cn_7]; exact fk_CordLoft_Acts_11.1) rfl k_38 rfl (by decide +kernel) ?_
  refine P_iload_n d_7_25 rfl ?_
  refine C_new (ci := 8) d_7_26 rfl cw1_7_9 cw2_8 cw3_8 k_59 rfl (by decide +kernel) (by decide +kernel) (by decide +kernel) ?_
  refine P_dup d_7_29 rfl ?_
  refine P_callIN (as := []) (x := 59) (st := [.ref 59, .int 19, .ref 39]) d_7_30 nw_7_15 (by decide +kernel) iw_8 mo_8 mr_8 (by decide +kernel) rfl rfl (by decide) (by decide) (by decide +kernel) (by decide +kernel) (by decide +kernel) ?_
  rw [show ent (mL 8) [.ref 59] = [.ref 59] by rw [ml_8]; rfl]
  refine P_aload_n d_8_0 rfl ?_
  refine P_objInit d_8_1 ow_8 (by decide) (by omega) (by decide) ?_
  refine P_ret d_8_4 mr_8 (by decide +kernel) (by decide +kernel) ?_
  refine C_aast (j := 19) d_7_33 k_39 rfl (by decide +kernel) (by decide +kernel) k_59 rfl ?_
  refine C_iinc (v := 20) d_7_34 rfl (by decide +kernel) ml_7 rfl rfl ?_
  refine P_goto (tgt := 15) d_7_37 rfl ?_
  refine P_iload_n d_7_15 rfl ?_
  refine P_bipush d_7_16 bi_40 ?_
  refine P_icmp_gt (tgt := 40) d_7_18 rfl (fun q => absurd q (by decide +kernel)) (fun _ => ?_)
  refine P_aload_n d_7_21 rfl ?_
  refine C_getR (v := 39) d_7_22 (by rw [cn_7]; exact fk_CordLoft_Acts_11.1) rfl k_38 rfl (by decide +kernel) ?_
  refine P_iload_n d_7_25 rfl ?_
  refine C_new (ci := 8) d_7_26 rfl cw1_7_9 cw2_8 cw3_8 k_60 rfl (by decide +kernel) (by decide +kernel) (by decide +kernel) ?_
  refine P_dup d_7_29 rfl ?_
  refine P_callIN (as := []) (x := 60) (st := [.ref 60, .int 20, .ref 39]) d_7_30 nw_7_15 (by decide +kernel) iw_8 mo_8 mr_8 (by decide +kernel) rfl rfl (by decide) (by decide) (by decide +kernel) (by decide +kernel) (by decide +kernel) ?_
  rw [show ent (mL 8) [.ref 60] = [.ref 60] by rw [ml_8]; rfl]
  refine P_aload_n d_8_0 rfl ?_
  refine P_objInit d_8_1 ow_8 (by decide) (by omega) (by decide) ?_
  refine P_ret d_8_4 mr_8 (by decide +kernel) (by decide +kernel) ?_
  refine C_aast (j := 20) d_7_33 k_39 rfl (by decide +kernel) (by decide +kernel) k_60 rfl ?_
  refine C_iinc (v := 21) d_7_34 rfl (by decide +kernel) ml_7 rfl rfl ?_
  refine P_goto (tgt := 15) d_7_37 rfl ?_
  refine P_iload_n d_7_15 rfl ?_
  refine P_bipush d_7_16 bi_40 ?_
  refine P_icmp_gt (tgt := 40) d_7_18 rfl (fun q => absurd q (by decide +kernel)) (fun _ => ?_)
  refine P_aload_n d_7_21 rfl ?_
  refine C_getR (v := 39) d_7_22 (by rw [cn_7]; exact fk_CordLoft_Acts_11.1) rfl k_38 rfl (by decide +kernel) ?_
  refine P_iload_n d_7_25 rfl ?_
  refine C_new (ci := 8) d_7_26 rfl cw1_7_9 cw2_8 cw3_8 k_61 rfl (by decide +kernel) (by decide +kernel) (by decide +kernel) ?_
  refine P_dup d_7_29 rfl ?_
  refine P_callIN (as := []) (x := 61) (st := [.ref 61, .int 21, .ref 39]) d_7_30 nw_7_15 (by decide +kernel) iw_8 mo_8 mr_8 (by decide +kernel) rfl rfl (by decide) (by decide) (by decide +kernel) (by decide +kernel) (by decide +kernel) ?_
  rw [show ent (mL 8) [.ref 61] = [.ref 61] by rw [ml_8]; rfl]
  refine P_aload_n d_8_0 rfl ?_
  refine P_objInit d_8_1 ow_8 (by decide) (by omega) (by decide) ?_
  refine P_ret d_8_4 mr_8 (by decide +kernel) (by decide +kernel) ?_
  refine C_aast (j := 21) d_7_33 k_39 rfl (by decide +kernel) (by decide +kernel) k_61 rfl ?_
  refine C_iinc (v := 22) d_7_34 rfl (by decide +kernel) ml_7 rfl rfl ?_
  refine P_goto (tgt := 15) d_7_37 rfl ?_
  refine P_iload_n d_7_15 rfl ?_
  refine P_bipush d_7_16 bi_40 ?_
  refine P_icmp_gt (tgt := 40) d_7_18 rfl (fun q => absurd q (by decide +kernel)) (fun _ => ?_)
  refine P_aload_n d_7_21 rfl ?_
  refine C_getR (v := 39) d_7_22 (by rw [cn_7]; exact fk_CordLoft_Acts_11.1) rfl k_38 rfl (by decide +kernel) ?_
  refine P_iload_n d_7_25 rfl ?_
  refine C_new (ci := 8) d_7_26 rfl cw1_7_9 cw2_8 cw3_8 k_62 rfl (by decide +kernel) (by decide +kernel) (by decide +kernel) ?_
  refine P_dup d_7_29 rfl ?_
  refine P_callIN (as := []) (x := 62) (st := [.ref 62, .int 22, .ref 39]) d_7_30 nw_7_15 (by decide +kernel) iw_8 mo_8 mr_8 (by decide +kernel) rfl rfl (by decide) (by decide) (by decide +kernel) (by decide +kernel) (by decide +kernel) ?_
  rw [show ent (mL 8) [.ref 62] = [.ref 62] by rw [ml_8]; rfl]
  refine P_aload_n d_8_0 rfl ?_
  refine P_objInit d_8_1 ow_8 (by decide) (by omega) (by decide) ?_
  refine P_ret d_8_4 mr_8 (by decide +kernel) (by decide +kernel) ?_
  refine C_aast (j := 22) d_7_33 k_39 rfl (by decide +kernel) (by decide +kernel) k_62 rfl ?_
  refine C_iinc (v := 23) d_7_34 rfl (by decide +kernel) ml_7 rfl rfl ?_
  refine P_goto (tgt := 15) d_7_37 rfl ?_
  refine P_iload_n d_7_15 rfl ?_
  refine P_bipush d_7_16 bi_40 ?_
  refine P_icmp_gt (tgt := 40) d_7_18 rfl (fun q => absurd q (by decide +kernel)) (fun _ => ?_)
  refine P_aload_n d_7_21 rfl ?_
  refine C_getR (v := 39) d_7_22 (by rw [cn_7]; exact fk_CordLoft_Acts_11.1) rfl k_38 rfl (by decide +kernel) ?_
  refine P_iload_n d_7_25 rfl ?_
  refine C_new (ci := 8) d_7_26 rfl cw1_7_9 cw2_8 cw3_8 k_63 rfl (by decide +kernel) (by decide +kernel) (by decide +kernel) ?_
  refine P_dup d_7_29 rfl ?_
  refine P_callIN (as := []) (x := 63) (st := [.ref 63, .int 23, .ref 39]) d_7_30 nw_7_15 (by decide +kernel) iw_8 mo_8 mr_8 (by decide +kernel) rfl rfl (by decide) (by decide) (by decide +kernel) (by decide +kernel) (by decide +kernel) ?_
  rw [show ent (mL 8) [.ref 63] = [.ref 63] by rw [ml_8]; rfl]
  refine P_aload_n d_8_0 rfl ?_
  refine P_objInit d_8_1 ow_8 (by decide) (by omega) (by decide) ?_
  refine P_ret d_8_4 mr_8 (by decide +kernel) (by decide +kernel) ?_
  refine C_aast (j := 23) d_7_33 k_39 rfl (by decide +kernel) (by decide +kernel) k_63 rfl ?_
  refine C_iinc (v := 24) d_7_34 rfl (by decide +kernel) ml_7 rfl rfl ?_
  refine P_goto (tgt := 15) d_7_37 rfl ?_
  refine P_iload_n d_7_15 rfl ?_
  refine P_bipush d_7_16 bi_40 ?_
  refine P_icmp_gt (tgt := 40) d_7_18 rfl (fun q => absurd q (by decide +kernel)) (fun _ => ?_)
  refine P_aload_n d_7_21 rfl ?_
  refine C_getR (v := 39) d_7_22 (by rw [cn_7]; exact fk_CordLoft_Acts_11.1) rfl k_38 rfl (by decide +kernel) ?_
  refine P_iload_n d_7_25 rfl ?_
  refine C_new (ci := 8) d_7_26 rfl cw1_7_9 cw2_8 cw3_8 k_64 rfl (by decide +kernel) (by decide +kernel) (by decide +kernel) ?_
  refine P_dup d_7_29 rfl ?_
  refine P_callIN (as := []) (x := 64) (st := [.ref 64, .int 24, .ref 39]) d_7_30 nw_7_15 (by decide +kernel) iw_8 mo_8 mr_8 (by decide +kernel) rfl rfl (by decide) (by decide) (by decide +kernel) (by decide +kernel) (by decide +kernel) ?_
  rw [show ent (mL 8) [.ref 64] = [.ref 64] by rw [ml_8]; rfl]
  refine P_aload_n d_8_0 rfl ?_
  refine P_objInit d_8_1 ow_8 (by decide) (by omega) (by decide) ?_
  refine P_ret d_8_4 mr_8 (by decide +kernel) (by decide +kernel) ?_
  refine C_aast (j := 24) d_7_33 k_39 rfl (by decide +kernel) (by decide +kernel) k_64 rfl ?_
  refine C_iinc (v := 25) d_7_34 rfl (by decide +kernel) ml_7 rfl rfl ?_
  refine P_goto (tgt := 15) d_7_37 rfl ?_
  refine P_iload_n d_7_15 rfl ?_
  refine P_bipush d_7_16 bi_40 ?_
  refine P_icmp_gt (tgt := 40) d_7_18 rfl (fun q => absurd q (by decide +kernel)) (fun _ => ?_)
  refine P_aload_n d_7_21 rfl ?_
  refine C_getR (v := 39) d_7_22 (by rw [cn_7]; exact fk_CordLoft_Acts_11.1) rfl k_38 rfl (by decide +kernel) ?_
  refine P_iload_n d_7_25 rfl ?_
  refine C_new (ci := 8) d_7_26 rfl cw1_7_9 cw2_8 cw3_8 k_65 rfl (by decide +kernel) (by decide +kernel) (by decide +kernel) ?_
  refine P_dup d_7_29 rfl ?_
  refine P_callIN (as := []) (x := 65) (st := [.ref 65, .int 25, .ref 39]) d_7_30 nw_7_15 (by decide +kernel) iw_8 mo_8 mr_8 (by decide +kernel) rfl rfl (by decide) (by decide) (by decide +kernel) (by decide +kernel) (by decide +kernel) ?_
  rw [show ent (mL 8) [.ref 65] = [.ref 65] by rw [ml_8]; rfl]
  refine P_aload_n d_8_0 rfl ?_
  refine P_objInit d_8_1 ow_8 (by decide) (by omega) (by decide) ?_
  refine P_ret d_8_4 mr_8 (by decide +kernel) (by decide +kernel) ?_
  refine C_aast (j := 25) d_7_33 k_39 rfl (by decide +kernel) (by decide +kernel) k_65 rfl ?_
  refine C_iinc (v := 26) d_7_34 rfl (by decide +kernel) ml_7 rfl rfl ?_
  refine P_goto (tgt := 15) d_7_37 rfl ?_
  refine P_iload_n d_7_15 rfl ?_
  refine P_bipush d_7_16 bi_40 ?_
  refine P_icmp_gt (tgt := 40) d_7_18 rfl (fun q => absurd q (by decide +kernel)) (fun _ => ?_)
  refine P_aload_n d_7_21 rfl ?_
  refine C_getR (v := 39) d_7_22 (by rw [cn_7]; exact fk_CordLoft_Acts_11.1) rfl k_38 rfl (by decide +kernel) ?_
  refine P_iload_n d_7_25 rfl ?_
  refine C_new (ci := 8) d_7_26 rfl cw1_7_9 cw2_8 cw3_8 k_66 rfl (by decide +kernel) (by decide +kernel) (by decide +kernel) ?_
  refine P_dup d_7_29 rfl ?_
  refine P_callIN (as := []) (x := 66) (st := [.ref 66, .int 26, .ref 39]) d_7_30 nw_7_15 (by decide +kernel) iw_8 mo_8 mr_8 (by decide +kernel) rfl rfl (by decide) (by decide) (by decide +kernel) (by decide +kernel) (by decide +kernel) ?_
  rw [show ent (mL 8) [.ref 66] = [.ref 66] by rw [ml_8]; rfl]
  refine P_aload_n d_8_0 rfl ?_
  refine P_objInit d_8_1 ow_8 (by decide) (by omega) (by decide) ?_
  refine P_ret d_8_4 mr_8 (by decide +kernel) (by decide +kernel) ?_
  refine C_aast (j := 26) d_7_33 k_39 rfl (by decide +kernel) (by decide +kernel) k_66 rfl ?_
  refine C_iinc (v := 27) d_7_34 rfl (by decide +kernel) ml_7 rfl rfl ?_
  refine P_goto (tgt := 15) d_7_37 rfl ?_
  refine P_iload_n d_7_15 rfl ?_
  refine P_bipush d_7_16 bi_40 ?_
  refine P_icmp_gt (tgt := 40) d_7_18 rfl (fun q => absurd q (by decide +kernel)) (fun _ => ?_)
  refine P_aload_n d_7_21 rfl ?_
  refine C_getR (v := 39) d_7_22 (by rw [cn_7]; exact fk_CordLoft_Acts_11.1) rfl k_38 rfl (by decide +kernel) ?_
  refine P_iload_n d_7_25 rfl ?_
  refine C_new (ci := 8) d_7_26 rfl cw1_7_9 cw2_8 cw3_8 k_67 rfl (by decide +kernel) (by decide +kernel) (by decide +kernel) ?_
  refine P_dup d_7_29 rfl ?_
  refine P_callIN (as := []) (x := 67) (st := [.ref 67, .int 27, .ref 39]) d_7_30 nw_7_15 (by decide +kernel) iw_8 mo_8 mr_8 (by decide +kernel) rfl rfl (by decide) (by decide) (by decide +kernel) (by decide +kernel) (by decide +kernel) ?_
  rw [show ent (mL 8) [.ref 67] = [.ref 67] by rw [ml_8]; rfl]
  refine P_aload_n d_8_0 rfl ?_
  refine P_objInit d_8_1 ow_8 (by decide) (by omega) (by decide) ?_
  refine P_ret d_8_4 mr_8 (by decide +kernel) (by decide +kernel) ?_
  refine C_aast (j := 27) d_7_33 k_39 rfl (by decide +kernel) (by decide +kernel) k_67 rfl ?_
  refine C_iinc (v := 28) d_7_34 rfl (by decide +kernel) ml_7 rfl rfl ?_
  refine P_goto (tgt := 15) d_7_37 rfl ?_
  refine P_iload_n d_7_15 rfl ?_
  refine P_bipush d_7_16 bi_40 ?_
  refine P_icmp_gt (tgt := 40) d_7_18 rfl (fun q => absurd q (by decide +kernel)) (fun _ => ?_)
  refine P_aload_n d_7_21 rfl ?_
  refine C_getR (v := 39) d_7_22 (by rw [cn_7]; exact fk_CordLoft_Acts_11.1) rfl k_38 rfl (by decide +kernel) ?_
  refine P_iload_n d_7_25 rfl ?_
  refine C_new (ci := 8) d_7_26 rfl cw1_7_9 cw2_8 cw3_8 k_68 rfl (by decide +kernel) (by decide +kernel) (by decide +kernel) ?_
  refine P_dup d_7_29 rfl ?_
  refine P_callIN (as := []) (x := 68) (st := [.ref 68, .int 28, .ref 39]) d_7_30 nw_7_15 (by decide +kernel) iw_8 mo_8 mr_8 (by decide +kernel) rfl rfl (by decide) (by decide) (by decide +kernel) (by decide +kernel) (by decide +kernel) ?_
  rw [show ent (mL 8) [.ref 68] = [.ref 68] by rw [ml_8]; rfl]
  refine P_aload_n d_8_0 rfl ?_
  refine P_objInit d_8_1 ow_8 (by decide) (by omega) (by decide) ?_
  refine P_ret d_8_4 mr_8 (by decide +kernel) (by decide +kernel) ?_
  refine C_aast (j := 28) d_7_33 k_39 rfl (by decide +kernel) (by decide +kernel) k_68 rfl ?_
  refine C_iinc (v := 29) d_7_34 rfl (by decide +kernel) ml_7 rfl rfl ?_
  refine P_goto (tgt := 15) d_7_37 rfl ?_
  refine P_iload_n d_7_15 rfl ?_
  refine P_bipush d_7_16 bi_40 ?_
  refine P_icmp_gt (tgt := 40) d_7_18 rfl (fun q => absurd q (by decide +kernel)) (fun _ => ?_)
  refine P_aload_n d_7_21 rfl ?_
  refine C_getR (v := 39) d_7_22 (by rw [cn_7]; exact fk_CordLoft_Acts_11.1) rfl k_38 rfl (by decide +kernel) ?_
  refine P_iload_n d_7_25 rfl ?_
  refine C_new (ci := 8) d_7_26 rfl cw1_7_9 cw2_8 cw3_8 k_69 rfl (by decide +kernel) (by decide +kernel) (by decide +kernel) ?_
  refine P_dup d_7_29 rfl ?_
  refine P_callIN (as := []) (x := 69) (st := [.ref 69, .int 29, .ref 39]) d_7_30 nw_7_15 (by decide +kernel) iw_8 mo_8 mr_8 (by decide +kernel) rfl rfl (by decide) (by decide) (by decide +kernel) (by decide +kernel) (by decide +kernel) ?_
  rw [show ent (mL 8) [.ref 69] = [.ref 69] by rw [ml_8]; rfl]
  refine P_aload_n d_8_0 rfl ?_
  refine P_objInit d_8_1 ow_8 (by decide) (by omega) (by decide) ?_
  refine P_ret d_8_4 mr_8 (by decide +kernel) (by decide +kernel) ?_
  refine C_aast (j := 29) d_7_33 k_39 rfl (by decide +kernel) (by decide +kernel) k_69 rfl ?_
  refine C_iinc (v := 30) d_7_34 rfl (by decide +kernel) ml_7 rfl rfl ?_
  refine P_goto (tgt := 15) d_7_37 rfl ?_
  refine P_iload_n d_7_15 rfl ?_
  refine P_bipush d_7_16 bi_40 ?_
  refine P_icmp_gt (tgt := 40) d_7_18 rfl (fun q => absurd q (by decide +kernel)) (fun _ => ?_)
  refine P_aload_n d_7_21 rfl ?_
  refine C_getR (v := 39) d_7_22 (by rw [cn_7]; exact fk_CordLoft_Acts_11.1) rfl k_38 rfl (by decide +kernel) ?_
  refine P_iload_n d_7_25 rfl ?_
  refine C_new (ci := 8) d_7_26 rfl cw1_7_9 cw2_8 cw3_8 k_70 rfl (by decide +kernel) (by decide +kernel) (by decide +kernel) ?_
  refine P_dup d_7_29 rfl ?_
  refine P_callIN (as := []) (x := 70) (st := [.ref 70, .int 30, .ref 39]) d_7_30 nw_7_15 (by decide +kernel) iw_8 mo_8 mr_8 (by decide +kernel) rfl rfl (by decide) (by decide) (by decide +kernel) (by decide +kernel) (by decide +kernel) ?_
  rw [show ent (mL 8) [.ref 70] = [.ref 70] by rw [ml_8]; rfl]
  refine P_aload_n d_8_0 rfl ?_
  refine P_objInit d_8_1 ow_8 (by decide) (by omega) (by decide) ?_
  refine P_ret d_8_4 mr_8 (by decide +kernel) (by decide +kernel) ?_
  refine C_aast (j := 30) d_7_33 k_39 rfl (by decide +kernel) (by decide +kernel) k_70 rfl ?_
  refine C_iinc (v := 31) d_7_34 rfl (by decide +kernel) ml_7 rfl rfl ?_
  refine P_goto (tgt := 15) d_7_37 rfl ?_
  refine P_iload_n d_7_15 rfl ?_
  refine P_bipush d_7_16 bi_40 ?_
  refine P_icmp_gt (tgt := 40) d_7_18 rfl (fun q => absurd q (by decide +kernel)) (fun _ => ?_)
  refine P_aload_n d_7_21 rfl ?_
  refine C_getR (v := 39) d_7_22 (by rw [cn_7]; exact fk_CordLoft_Acts_11.1) rfl k_38 rfl (by decide +kernel) ?_
  refine P_iload_n d_7_25 rfl ?_
  refine C_new (ci := 8) d_7_26 rfl cw1_7_9 cw2_8 cw3_8 k_71 rfl (by decide +kernel) (by decide +kernel) (by decide +kernel) ?_
  refine P_dup d_7_29 rfl ?_
  refine P_callIN (as := []) (x := 71) (st := [.ref 71, .int 31, .ref 39]) d_7_30 nw_7_15 (by decide +kernel) iw_8 mo_8 mr_8 (by decide +kernel) rfl rfl (by decide) (by decide) (by decide +kernel) (by decide +kernel) (by decide +kernel) ?_
  rw [show ent (mL 8) [.ref 71] = [.ref 71] by rw [ml_8]; rfl]
  refine P_aload_n d_8_0 rfl ?_
  refine P_objInit d_8_1 ow_8 (by decide) (by omega) (by decide) ?_
  refine P_ret d_8_4 mr_8 (by decide +kernel) (by decide +kernel) ?_
  refine C_aast (j := 31) d_7_33 k_39 rfl (by decide +kernel) (by decide +kernel) k_71 rfl ?_
  refine C_iinc (v := 32) d_7_34 rfl (by decide +kernel) ml_7 rfl rfl ?_
  refine P_goto (tgt := 15) d_7_37 rfl ?_
  refine P_iload_n d_7_15 rfl ?_
  refine P_bipush d_7_16 bi_40 ?_
  refine P_icmp_gt (tgt := 40) d_7_18 rfl (fun q => absurd q (by decide +kernel)) (fun _ => ?_)
  refine P_aload_n d_7_21 rfl ?_
  refine C_getR (v := 39) d_7_22 (by rw [cn_7]; exact fk_CordLoft_Acts_11.1) rfl k_38 rfl (by decide +kernel) ?_
  refine P_iload_n d_7_25 rfl ?_
  refine C_new (ci := 8) d_7_26 rfl cw1_7_9 cw2_8 cw3_8 k_72 rfl (by decide +kernel) (by decide +kernel) (by decide +kernel) ?_
  refine P_dup d_7_29 rfl ?_
  refine P_callIN (as := []) (x := 72) (st := [.ref 72, .int 32, .ref 39]) d_7_30 nw_7_15 (by decide +kernel) iw_8 mo_8 mr_8 (by decide +kernel) rfl rfl (by decide) (by decide) (by decide +kernel) (by decide +kernel) (by decide +kernel) ?_
  rw [show ent (mL 8) [.ref 72] = [.ref 72] by rw [ml_8]; rfl]
  refine P_aload_n d_8_0 rfl ?_
  refine P_objInit d_8_1 ow_8 (by decide) (by omega) (by decide) ?_
  refine P_ret d_8_4 mr_8 (by decide +kernel) (by decide +kernel) ?_
  refine C_aast (j := 32) d_7_33 k_39 rfl (by decide +kernel) (by decide +kernel) k_72 rfl ?_
  refine C_iinc (v := 33) d_7_34 rfl (by decide +kernel) ml_7 rfl rfl ?_
  refine P_goto (tgt := 15) d_7_37 rfl ?_
  refine P_iload_n d_7_15 rfl ?_
  refine P_bipush d_7_16 bi_40 ?_
  refine P_icmp_gt (tgt := 40) d_7_18 rfl (fun q => absurd q (by decide +kernel)) (fun _ => ?_)
  refine P_aload_n d_7_21 rfl ?_
  refine C_getR (v := 39) d_7_22 (by rw [cn_7]; exact fk_CordLoft_Acts_11.1) rfl k_38 rfl (by decide +kernel) ?_
  refine P_iload_n d_7_25 rfl ?_
  refine C_new (ci := 8) d_7_26 rfl cw1_7_9 cw2_8 cw3_8 k_73 rfl (by decide +kernel) (by decide +kernel) (by decide +kernel) ?_
  refine P_dup d_7_29 rfl ?_
  refine P_callIN (as := []) (x := 73) (st := [.ref 73, .int 33, .ref 39]) d_7_30 nw_7_15 (by decide +kernel) iw_8 mo_8 mr_8 (by decide +kernel) rfl rfl (by decide) (by decide) (by decide +kernel) (by decide +kernel) (by decide +kernel) ?_
  rw [show ent (mL 8) [.ref 73] = [.ref 73] by rw [ml_8]; rfl]
  refine P_aload_n d_8_0 rfl ?_
  refine P_objInit d_8_1 ow_8 (by decide) (by omega) (by decide) ?_
  refine P_ret d_8_4 mr_8 (by decide +kernel) (by decide +kernel) ?_
  refine C_aast (j := 33) d_7_33 k_39 rfl (by decide +kernel) (by decide +kernel) k_73 rfl ?_
  refine C_iinc (v := 34) d_7_34 rfl (by decide +kernel) ml_7 rfl rfl ?_
  refine P_goto (tgt := 15) d_7_37 rfl ?_
  refine P_iload_n d_7_15 rfl ?_
  refine P_bipush d_7_16 bi_40 ?_
  refine P_icmp_gt (tgt := 40) d_7_18 rfl (fun q => absurd q (by decide +kernel)) (fun _ => ?_)
  refine P_aload_n d_7_21 rfl ?_
  refine C_getR (v := 39) d_7_22 (by rw [cn_7]; exact fk_CordLoft_Acts_11.1) rfl k_38 rfl (by decide +kernel) ?_
  refine P_iload_n d_7_25 rfl ?_
  refine C_new (ci := 8) d_7_26 rfl cw1_7_9 cw2_8 cw3_8 k_74 rfl (by decide +kernel) (by decide +kernel) (by decide +kernel) ?_
  refine P_dup d_7_29 rfl ?_
  refine P_callIN (as := []) (x := 74) (st := [.ref 74, .int 34, .ref 39]) d_7_30 nw_7_15 (by decide +kernel) iw_8 mo_8 mr_8 (by decide +kernel) rfl rfl (by decide) (by decide) (by decide +kernel) (by decide +kernel) (by decide +kernel) ?_
  rw [show ent (mL 8) [.ref 74] = [.ref 74] by rw [ml_8]; rfl]
  refine P_aload_n d_8_0 rfl ?_
  refine P_objInit d_8_1 ow_8 (by decide) (by omega) (by decide) ?_
  refine P_ret d_8_4 mr_8 (by decide +kernel) (by decide +kernel) ?_
  refine C_aast (j := 34) d_7_33 k_39 rfl (by decide +kernel) (by decide +kernel) k_74 rfl ?_
  refine C_iinc (v := 35) d_7_34 rfl (by decide +kernel) ml_7 rfl rfl ?_
  refine P_goto (tgt := 15) d_7_37 rfl ?_
  refine P_iload_n d_7_15 rfl ?_
  refine P_bipush d_7_16 bi_40 ?_
  refine P_icmp_gt (tgt := 40) d_7_18 rfl (fun q => absurd q (by decide +kernel)) (fun _ => ?_)
  refine P_aload_n d_7_21 rfl ?_
  refine C_getR (v := 39) d_7_22 (by rw [cn_7]; exact fk_CordLoft_Acts_11.1) rfl k_38 rfl (by decide +kernel) ?_
  refine P_iload_n d_7_25 rfl ?_
  refine C_new (ci := 8) d_7_26 rfl cw1_7_9 cw2_8 cw3_8 k_75 rfl (by decide +kernel) (by decide +kernel) (by decide +kernel) ?_
  refine P_dup d_7_29 rfl ?_
  refine P_callIN (as := []) (x := 75) (st := [.ref 75, .int 35, .ref 39]) d_7_30 nw_7_15 (by decide +kernel) iw_8 mo_8 mr_8 (by decide +kernel) rfl rfl (by decide) (by decide) (by decide +kernel) (by decide +kernel) (by decide +kernel) ?_
  rw [show ent (mL 8) [.ref 75] = [.ref 75] by rw [ml_8]; rfl]
  refine P_aload_n d_8_0 rfl ?_
  refine P_objInit d_8_1 ow_8 (by decide) (by omega) (by decide) ?_
  refine P_ret d_8_4 mr_8 (by decide +kernel) (by decide +kernel) ?_
  refine C_aast (j := 35) d_7_33 k_39 rfl (by decide +kernel) (by decide +kernel) k_75 rfl ?_
  refine C_iinc (v := 36) d_7_34 rfl (by decide +kernel) ml_7 rfl rfl ?_
  refine P_goto (tgt := 15) d_7_37 rfl ?_
  refine P_iload_n d_7_15 rfl ?_
  refine P_bipush d_7_16 bi_40 ?_
  refine P_icmp_gt (tgt := 40) d_7_18 rfl (fun q => absurd q (by decide +kernel)) (fun _ => ?_)
  refine P_aload_n d_7_21 rfl ?_
  refine C_getR (v := 39) d_7_22 (by rw [cn_7]; exact fk_CordLoft_Acts_11.1) rfl k_38 rfl (by decide +kernel) ?_
  refine P_iload_n d_7_25 rfl ?_
  refine C_new (ci := 8) d_7_26 rfl cw1_7_9 cw2_8 cw3_8 k_76 rfl (by decide +kernel) (by decide +kernel) (by decide +kernel) ?_
  refine P_dup d_7_29 rfl ?_
  refine P_callIN (as := []) (x := 76) (st := [.ref 76, .int 36, .ref 39]) d_7_30 nw_7_15 (by decide +kernel) iw_8 mo_8 mr_8 (by decide +kernel) rfl rfl (by decide) (by decide) (by decide +kernel) (by decide +kernel) (by decide +kernel) ?_
  rw [show ent (mL 8) [.ref 76] = [.ref 76] by rw [ml_8]; rfl]
  refine P_aload_n d_8_0 rfl ?_
  refine P_objInit d_8_1 ow_8 (by decide) (by omega) (by decide) ?_
  refine P_ret d_8_4 mr_8 (by decide +kernel) (by decide +kernel) ?_
  refine C_aast (j := 36) d_7_33 k_39 rfl (by decide +kernel) (by decide +kernel) k_76 rfl ?_
  refine C_iinc (v := 37) d_7_34 rfl (by decide +kernel) ml_7 rfl rfl ?_
  refine P_goto (tgt := 15) d_7_37 rfl ?_
  refine P_iload_n d_7_15 rfl ?_
  refine P_bipush d_7_16 bi_40 ?_
  refine P_icmp_gt (tgt := 40) d_7_18 rfl (fun q => absurd q (by decide +kernel)) (fun _ => ?_)
  refine P_aload_n d_7_21 rfl ?_
  refine C_getR (v := 39) d_7_22 (by rw [cn_7]; exact fk_CordLoft_Acts_11.1) rfl k_38 rfl (by decide +kernel) ?_
  refine P_iload_n d_7_25 rfl ?_
  refine C_new (ci := 8) d_7_26 rfl cw1_7_9 cw2_8 cw3_8 k_77 rfl (by decide +kernel) (by decide +kernel) (by decide +kernel) ?_
  refine P_dup d_7_29 rfl ?_
  refine P_callIN (as := []) (x := 77) (st := [.ref 77, .int 37, .ref 39]) d_7_30 nw_7_15 (by decide +kernel) iw_8 mo_8 mr_8 (by decide +kernel) rfl rfl (by decide) (by decide) (by decide +kernel) (by decide +kernel) (by decide +kernel) ?_
  rw [show ent (mL 8) [.ref 77] = [.ref 77] by rw [ml_8]; rfl]
  refine P_aload_n d_8_0 rfl ?_
  refine P_objInit d_8_1 ow_8 (by decide) (by omega) (by decide) ?_
  refine P_ret d_8_4 mr_8 (by decide +kernel) (by decide +kernel) ?_
  refine C_aast (j := 37) d_7_33 k_39 rfl (by decide +kernel) (by decide +kernel) k_77 rfl ?_
  refine C_iinc (v := 38) d_7_34 rfl (by decide +kernel) ml_7 rfl rfl ?_
  refine P_goto (tgt := 15) d_7_37 rfl ?_
  refine P_iload_n d_7_15 rfl ?_
  refine P_bipush d_7_16 bi_40 ?_
  refine P_icmp_gt (tgt := 40) d_7_18 rfl (fun q => absurd q (by decide +kernel)) (fun _ => ?_)
  refine P_aload_n d_7_21 rfl ?_
  refine C_getR (v := 39) d_7_22 (by rw [cn_7]; exact fk_CordLoft_Acts_11.1) rfl k_38 rfl (by decide +kernel) ?_
  refine P_iload_n d_7_25 rfl ?_
  refine C_new (ci := 8) d_7_26 rfl cw1_7_9 cw2_8 cw3_8 k_78 rfl (by decide +kernel) (by decide +kernel) (by decide +kernel) ?_
  refine P_dup d_7_29 rfl ?_
  refine P_callIN (as := []) (x := 78) (st := [.ref 78, .int 38, .ref 39]) d_7_30 nw_7_15 (by decide +kernel) iw_8 mo_8 mr_8 (by decide +kernel) rfl rfl (by decide) (by decide) (by decide +kernel) (by decide +kernel) (by decide +kernel) ?_
  rw [show ent (mL 8) [.ref 78] = [.ref 78] by rw [ml_8]; rfl]
  refine P_aload_n d_8_0 rfl ?_
  refine P_objInit d_8_1 ow_8 (by decide) (by omega) (by decide) ?_
  refine P_ret d_8_4 mr_8 (by decide +kernel) (by decide +kernel) ?_
  refine C_aast (j := 38) d_7_33 k_39 rfl (by decide +kernel) (by decide +kernel) k_78 rfl ?_
  refine C_iinc (v := 39) d_7_34 rfl (by decide +kernel) ml_7 rfl rfl ?_
  refine P_goto (tgt := 15) d_7_37 rfl ?_
  refine P_iload_n d_7_15 rfl ?_
  refine P_bipush d_7_16 bi_40 ?_
  refine P_icmp_gt (tgt := 40) d_7_18 rfl (fun q => absurd q (by decide +kernel)) (fun _ => ?_)
  refine P_aload_n d_7_21 rfl ?_
  refine C_getR (v := 39) d_7_22 (by rw [cn_7]; exact fk_CordLoft_Acts_11.1) rfl k_38 rfl (by decide +kernel) ?_
  refine P_iload_n d_7_25 rfl ?_
  refine C_new (ci := 8) d_7_26 rfl cw1_7_9 cw2_8 cw3_8 k_79 rfl (by decide +kernel) (by decide +kernel) (by decide +kernel) ?_
  refine P_dup d_7_29 rfl ?_
  refine P_callIN (as := []) (x := 79) (st := [.ref 79, .int 39, .ref 39]) d_7_30 nw_7_15 (by decide +kernel) iw_8 mo_8 mr_8 (by decide +kernel) rfl rfl (by decide) (by decide) (by decide +kernel) (by decide +kernel) (by decide +kernel) ?_
  rw [show ent (mL 8) [.ref 79] = [.ref 79] by rw [ml_8]; rfl]
  refine P_aload_n d_8_0 rfl ?_
  refine P_objInit d_8_1 ow_8 (by decide) (by omega) (by decide) ?_
  refine P_ret d_8_4 mr_8 (by decide +kernel) (by decide +kernel) ?_
  refine C_aast (j := 39) d_7_33 k_39 rfl (by decide +kernel) (by decide +kernel) k_79 rfl ?_
  refine C_iinc (v := 40) d_7_34 rfl (by decide +kernel) ml_7 rfl rfl ?_
  refine P_goto (tgt := 15) d_7_37 rfl ?_
  refine P_iload_n d_7_15 rfl ?_
  refine P_bipush d_7_16 bi_40 ?_
  refine P_icmp_gt (tgt := 40) d_7_18 rfl (fun q => absurd q (by decide +kernel)) (fun _ => ?_)
  refine P_aload_n d_7_21 rfl ?_
  refine C_getR (v := 39) d_7_22 (by rw [cn_7]; exact fk_CordLoft_Acts_11.1) rfl k_38 rfl (by decide +kernel) ?_
  refine P_iload_n d_7_25 rfl ?_
  refine C_new (ci := 8) d_7_26 rfl cw1_7_9 cw2_8 cw3_8 k_80 rfl (by decide +kernel) (by decide +kernel) (by decide +kernel) ?_
  refine P_dup d_7_29 rfl ?_
  refine P_callIN (as := []) (x := 80) (st := [.ref 80, .int 40, .ref 39]) d_7_30 nw_7_15 (by decide +kernel) iw_8 mo_8 mr_8 (by decide +kernel) rfl rfl (by decide) (by decide) (by decide +kernel) (by decide +kernel) (by decide +kernel) ?_
  rw [show ent (mL 8) [.ref 80] = [.ref 80] by rw [ml_8]; rfl]
  refine P_aload_n d_8_0 rfl ?_
  refine P_objInit d_8_1 ow_8 (by decide) (by omega) (by decide) ?_
  refine P_ret d_8_4 mr_8 (by decide +kernel) (by decide +kernel) ?_
  refine C_aast (j := 40) d_7_33 k_39 rfl (by decide +kernel) (by decide +kernel) k_80 rfl ?_
  refine C_iinc (v := 41) d_7_34 rfl (by decide +kernel) ml_7 rfl rfl ?_
  refine P_goto (tgt := 15) d_7_37 rfl ?_
  refine P_iload_n d_7_15 rfl ?_
  refine P_bipush d_7_16 bi_40 ?_
  refine P_icmp_gt (tgt := 40) d_7_18 rfl (fun _ => ?_) (fun q => absurd (by decide +kernel) q)
  refine P_ret d_7_40 mr_7 (by decide +kernel) (by decide +kernel) ?_
  refine C_putR d_0_71 fq_0_45 rfl k_0 rfl ?_
  refine P_aload_n d_0_74 rfl ?_
  refine C_new (ci := 8) d_0_75 rfl cw1_0_49 cw2_8 cw3_8 k_81 rfl (by decide +kernel) (by decide +kernel) (by decide +kernel) ?_
  refine P_dup d_0_78 rfl ?_
  refine P_callIN (as := []) (x := 81) (st := [.ref 81, .ref 0]) d_0_79 nw_0_51 (by decide +kernel) iw_8 mo_8 mr_8 (by decide +kernel) rfl rfl (by decide) (by decide) (by decide +kernel) (by decide +kernel) (by decide +kernel) ?_
  rw [show ent (mL 8) [.ref 81] = [.ref 81] by rw [ml_8]; rfl]
  refine P_aload_n d_8_0 rfl ?_
  refine P_objInit d_8_1 ow_8 (by decide) (by omega) (by decide) ?_
  refine P_ret d_8_4 mr_8 (by decide +kernel) (by decide +kernel) ?_
  refine C_putR d_0_82 fq_0_52 rfl k_0 rfl ?_
  refine P_aload_n d_0_85 rfl ?_
  refine P_iconst d_0_86 ic_3 ?_
  refine C_newref (N := 3) d_0_87 cw1_0_49 (by decide +kernel) (by decide +kernel) (by decide) k_82 l_82 rfl (by decide +kernel) (by decide +kernel) (by decide +kernel) ?_
  refine C_putR d_0_90 fq_0_56 rfl k_0 rfl ?_
  refine P_iconst d_0_93 ic_0 ?_
  refine C_istore_n d_0_94 ml_0 rfl rfl ?_
  refine P_iload_n d_0_95 rfl ?_
  refine P_iconst d_0_96 ic_3 ?_
  refine P_icmp_ge (tgt := 119) d_0_97 rfl (fun q => absurd q (by decide +kernel)) (fun _ => ?_)
  refine P_aload_n d_0_100 rfl ?_
  refine C_getR (v := 82) d_0_101 (by rw [cn_0]; exact fk_CordLoft_56.1) rfl k_0 rfl (by decide +kernel) ?_
  refine P_iload_n d_0_104 rfl ?_
  refine C_new (ci := 8) d_0_105 rfl cw1_0_49 cw2_8 cw3_8 k_83 rfl (by decide +kernel) (by decide +kernel) (by decide +kernel) ?_
  refine P_dup d_0_108 rfl ?_
  refine P_callIN (as := []) (x := 83) (st := [.ref 83, .int 0, .ref 82]) d_0_109 nw_0_51 (by decide +kernel) iw_8 mo_8 mr_8 (by decide +kernel) rfl rfl (by decide) (by decide) (by decide +kernel) (by decide +kernel) (by decide +kernel) ?_
  rw [show ent (mL 8) [.ref 83] = [.ref 83] by rw [ml_8]; rfl]
  refine P_aload_n d_8_0 rfl ?_
  refine P_objInit d_8_1 ow_8 (by decide) (by omega) (by decide) ?_
  refine P_ret d_8_4 mr_8 (by decide +kernel) (by decide +kernel) ?_
  refine C_aast (j := 0) d_0_112 k_82 rfl (by decide +kernel) (by decide +kernel) k_83 rfl ?_
  refine C_iinc (v := 1) d_0_113 rfl (by decide +kernel) ml_0 rfl rfl ?_
  refine P_goto (tgt := 95) d_0_116 rfl ?_
  refine P_iload_n d_0_95 rfl ?_
  refine P_iconst d_0_96 ic_3 ?_
  refine P_icmp_ge (tgt := 119) d_0_97 rfl (fun q => absurd q (by decide +kernel)) (fun _ => ?_)
  refine P_aload_n d_0_100 rfl ?_
  refine C_getR (v := 82) d_0_101 (by rw [cn_0]; exact fk_CordLoft_56.1) rfl k_0 rfl (by decide +kernel) ?_
  refine P_iload_n d_0_104 rfl ?_
  refine C_new (ci := 8) d_0_105 rfl cw1_0_49 cw2_8 cw3_8 k_84 rfl (by decide +kernel) (by decide +kernel) (by decide +kernel) ?_
  refine P_dup d_0_108 rfl ?_
  refine P_callIN (as := []) (x := 84) (st := [.ref 84, .int 1, .ref 82]) d_0_109 nw_0_51 (by decide +kernel) iw_8 mo_8 mr_8 (by decide +kernel) rfl rfl (by decide) (by decide) (by decide +kernel) (by decide +kernel) (by decide +kernel) ?_
  rw [show ent (mL 8) [.ref 84] = [.ref 84] by rw [ml_8]; rfl]
  refine P_aload_n d_8_0 rfl ?_
  refine P_objInit d_8_1 ow_8 (by decide) (by omega) (by decide) ?_
  refine P_ret d_8_4 mr_8 (by decide +kernel) (by decide +kernel) ?_
  refine C_aast (j := 1) d_0_112 k_82 rfl (by decide +kernel) (by decide +kernel) k_84 rfl ?_
  refine C_iinc (v := 2) d_0_113 rfl (by decide +kernel) ml_0 rfl rfl ?_
  refine P_goto (tgt := 95) d_0_116 rfl ?_
  refine P_iload_n d_0_95 rfl ?_
  refine P_iconst d_0_96 ic_3 ?_
  refine P_icmp_ge (tgt := 119) d_0_97 rfl (fun q => absurd q (by decide +kernel)) (fun _ => ?_)
  refine P_aload_n d_0_100 rfl ?_
  refine C_getR (v := 82) d_0_101 (by rw [cn_0]; exact fk_CordLoft_56.1) rfl k_0 rfl (by decide +kernel) ?_
  refine P_iload_n d_0_104 rfl ?_
  refine C_new (ci := 8) d_0_105 rfl cw1_0_49 cw2_8 cw3_8 k_85 rfl (by decide +kernel) (by decide +kernel) (by decide +kernel) ?_
  refine P_dup d_0_108 rfl ?_
  refine P_callIN (as := []) (x := 85) (st := [.ref 85, .int 2, .ref 82]) d_0_109 nw_0_51 (by decide +kernel) iw_8 mo_8 mr_8 (by decide +kernel) rfl rfl (by decide) (by decide) (by decide +kernel) (by decide +kernel) (by decide +kernel) ?_
  rw [show ent (mL 8) [.ref 85] = [.ref 85] by rw [ml_8]; rfl]
  refine P_aload_n d_8_0 rfl ?_
  refine P_objInit d_8_1 ow_8 (by decide) (by omega) (by decide) ?_
  refine P_ret d_8_4 mr_8 (by decide +kernel) (by decide +kernel) ?_
  refine C_aast (j := 2) d_0_112 k_82 rfl (by decide +kernel) (by decide +kernel) k_85 rfl ?_
  refine C_iinc (v := 3) d_0_113 rfl (by decide +kernel) ml_0 rfl rfl ?_
  refine P_goto (tgt := 95) d_0_116 rfl ?_
  refine P_iload_n d_0_95 rfl ?_
  refine P_iconst d_0_96 ic_3 ?_
  refine P_icmp_ge (tgt := 119) d_0_97 rfl (fun _ => ?_) (fun q => absurd (by decide +kernel) q)
  refine P_aload_n d_0_119 rfl ?_
  refine P_iconst d_0_120 ic_0 ?_
  refine C_putI d_0_121 fq_0_60 rfl k_0 rfl ?_
  refine P_aload_n d_0_124 rfl ?_
  refine C_new (ci := 6) d_0_125 rfl cw1_0_64 cw2_6 cw3_6 k_86 rfl (by decide +kernel) (by decide +kernel) (by decide +kernel) ?_
  refine P_dup d_0_128 rfl ?_
  refine P_callIN (as := []) (x := 86) (st := [.ref 86, .ref 0]) d_0_129 nw_0_66 (by decide +kernel) iw_9 mo_9 mr_9 (by decide +kernel) rfl rfl (by decide) (by decide) (by decide +kernel) (by decide +kernel) (by decide +kernel) ?_
  rw [show ent (mL 9) [.ref 86] = [.ref 86] by rw [ml_9]; rfl]
  refine P_aload_n d_9_0 rfl ?_
  refine P_objInit d_9_1 ow_9 (by decide) (by omega) (by decide) ?_
  refine P_aload_n d_9_4 rfl ?_
  refine C_new (ci := 1) d_9_5 rfl cw1_9_9 cw2_1 cw3_1 k_87 rfl (by decide +kernel) (by decide +kernel) (by decide +kernel) ?_
  refine P_dup d_9_8 rfl ?_
  refine P_callIN (as := []) (x := 87) (st := [.ref 87, .ref 86]) d_9_9 nw_9_11 (by decide +kernel) iw_10 mo_10 mr_10 (by decide +kernel) rfl rfl (by decide) (by decide) (by decide +kernel) (by decide +kernel) (by decide +kernel) ?_
  rw [show ent (mL 10) [.ref 87] = [.ref 87] by rw [ml_10]; rfl]
  refine P_aload_n d_10_0 rfl ?_
  refine P_objInit d_10_1 ow_10 (by decide) (by omega) (by decide) ?_
  refine P_ret d_10_4 mr_10 (by decide +kernel) (by decide +kernel) ?_
  refine C_putR d_9_12 fq_9_12 rfl k_86 rfl ?_
  refine P_aload_n d_9_15 rfl ?_
  refine P_sipush d_9_16 si_256 ?_
  refine C_newarr (k := 20) (N := 256) d_9_19 aw_int rfl (by decide) (by decide) (by decide +kernel) (by decide +kernel) (by decide) k_88 l_88 rfl (by decide +kernel) (by decide +kernel) (by decide +kernel) ?_
  refine C_putR d_9_21 fq_9_20 rfl k_86 rfl ?_
  refine P_aload_n d_9_24 rfl ?_
  refine P_sipush d_9_25 si_256 ?_
  refine C_newarr (k := 20) (N := 256) d_9_28 aw_int rfl (by decide) (by decide) (by decide +kernel) (by decide +kernel) (by decide) k_89 l_89 rfl (by decide +kernel) (by decide +kernel) (by decide +kernel) ?_
  refine C_putR d_9_30 fq_9_24 rfl k_86 rfl ?_
  refine P_aload_n d_9_33 rfl ?_
  refine P_sipush d_9_34 si_256 ?_
  refine C_newarr (k := 20) (N := 256) d_9_37 aw_int rfl (by decide) (by decide) (by decide +kernel) (by decide +kernel) (by decide) k_90 l_90 rfl (by decide +kernel) (by decide +kernel) (by decide +kernel) ?_
  refine C_putR d_9_39 fq_9_27 rfl k_86 rfl ?_
  refine P_aload_n d_9_42 rfl ?_
  refine P_bipush d_9_43 bi_8 ?_
  refine C_newarr (k := 20) (N := 8) d_9_45 aw_int rfl (by decide) (by decide) (by decide +kernel) (by decide +kernel) (by decide) k_91 l_91 rfl (by decide +kernel) (by decide +kernel) (by decide +kernel) ?_
  refine C_putR d_9_47 fq_9_30 rfl k_86 rfl ?_
  refine P_ret d_9_50 mr_9 (by decide +kernel) (by decide +kernel) ?_
  refine C_putR d_0_132 fq_0_67 rfl k_0 rfl ?_
  refine P_aload_n d_0_135 rfl ?_
  refine C_new (ci := 3) d_0_136 rfl cw1_0_71 cw2_3 cw3_3 k_92 rfl (by decide +kernel) (by decide +kernel) (by decide +kernel) ?_
  refine P_dup d_0_139 rfl ?_
  refine P_callIN (as := []) (x := 92) (st := [.ref 92, .ref 0]) d_0_140 nw_0_73 (by decide +kernel) iw_11 mo_11 mr_11 (by decide +kernel) rfl rfl (by decide) (by decide) (by decide +kernel) (by decide +kernel) (by decide +kernel) ?_
  rw [show ent (mL 11) [.ref 92] = [.ref 92] by rw [ml_11]; rfl]
  refine P_aload_n d_11_0 rfl ?_
  refine P_objInit d_11_1 ow_11 (by decide) (by omega) (by decide) ?_
  refine P_aload_n d_11_4 rfl ?_
  refine P_sipush d_11_5 si_256 ?_
  refine C_newarr (k := 20) (N := 256) d_11_8 aw_int rfl (by decide) (by decide) (by decide +kernel) (by decide +kernel) (by decide) k_93 l_93 rfl (by decide +kernel) (by decide +kernel) (by decide +kernel) ?_
  refine C_putR d_11_10 fq_11_11 rfl k_92 rfl ?_
  refine P_aload_n d_11_13 rfl ?_
  refine P_sipush d_11_14 si_256 ?_
  refine C_newarr (k := 20) (N := 256) d_11_17 aw_int rfl (by decide) (by decide) (by decide +kernel) (by decide +kernel) (by decide) k_94 l_94 rfl (by decide +kernel) (by decide +kernel) (by decide +kernel) ?_
  refine C_putR d_11_19 fq_11_17 rfl k_92 rfl ?_
  refine P_aload_n d_11_22 rfl ?_
  refine P_sipush d_11_23 si_256 ?_
  refine C_newarr (k := 20) (N := 256) d_11_26 aw_int rfl (by decide) (by decide) (by decide +kernel) (by decide +kernel) (by decide) k_95 l_95 rfl (by decide +kernel) (by decide +kernel) (by decide +kernel) ?_
  refine C_putR d_11_28 fq_11_20 rfl k_92 rfl ?_
  refine P_aload_n d_11_31 rfl ?_
  refine P_sipush d_11_32 si_256 ?_
  refine C_newarr (k := 20) (N := 256) d_11_35 aw_int rfl (by decide) (by decide) (by decide +kernel) (by decide +kernel) (by decide) k_96 l_96 rfl (by decide +kernel) (by decide +kernel) (by decide +kernel) ?_
  refine C_putR d_11_37 fq_11_23 rfl k_92 rfl ?_
  refine P_aload_n d_11_40 rfl ?_
  refine P_sipush d_11_41 si_256 ?_
  refine C_newarr (k := 20) (N := 256) d_11_44 aw_int rfl (by decide) (by decide) (by decide +kernel) (by decide +kernel) (by decide) k_97 l_97 rfl (by decide +kernel) (by decide +kernel) (by decide +kernel) ?_
  refine C_putR d_11_46 fq_11_26 rfl k_92 rfl ?_
  refine P_aload_n d_11_49 rfl ?_
  refine P_sipush d_11_50 si_256 ?_
  refine C_newarr (k := 20) (N := 256) d_11_53 aw_int rfl (by decide) (by decide) (by decide +kernel) (by decide +kernel) (by decide) k_98 l_98 rfl (by decide +kernel) (by decide +kernel) (by decide +kernel) ?_
  refine C_putR d_11_55 fq_11_29 rfl k_92 rfl ?_
  refine P_ret d_11_58 mr_11 (by decide +kernel) (by decide +kernel) ?_
  refine C_putR d_0_143 fq_0_74 rfl k_0 rfl ?_
  refine P_aload_n d_0_146 rfl ?_
  refine C_new (ci := 7) d_0_147 rfl cw1_0_78 cw2_7 cw3_7 k_99 rfl (by decide +kernel) (by decide +kernel) (by decide +kernel) ?_
  refine P_dup d_0_150 rfl ?_
  refine P_callIN (as := []) (x := 99) (st := [.ref 99, .ref 0]) d_0_151 nw_0_80 (by decide +kernel) iw_12 mo_12 mr_12 (by decide +kernel) rfl rfl (by decide) (by decide) (by decide +kernel) (by decide +kernel) (by decide +kernel) ?_
  rw [show ent (mL 12) [.ref 99] = [.ref 99] by rw [ml_12]; rfl]
  refine P_aload_n d_12_0 rfl ?_
  refine P_objInit d_12_1 ow_12 (by decide) (by omega) (by decide) ?_
  refine P_aload_n d_12_4 rfl ?_
  refine P_bipush d_12_5 bi_30 ?_
  refine C_newarr (k := 20) (N := 30) d_12_7 aw_int rfl (by decide) (by decide) (by decide +kernel) (by decide +kernel) (by decide) k_100 l_100 rfl (by decide +kernel) (by decide +kernel) (by decide +kernel) ?_
  refine C_putR d_12_9 fq_12_11 rfl k_99 rfl ?_
  refine P_aload_n d_12_12 rfl ?_
  refine P_bipush d_12_13 bi_30 ?_
  refine C_newarr (k := 23) (N := 30) d_12_15 aw_boolean rfl (by decide) (by decide) (by decide +kernel) (by decide +kernel) (by decide) k_101 l_101 rfl (by decide +kernel) (by decide +kernel) (by decide +kernel) ?_
  refine C_putR d_12_17 fq_12_15 rfl k_99 rfl ?_
  refine P_aload_n d_12_20 rfl ?_
  refine P_bipush d_12_21 bi_30 ?_
  refine C_newarr (k := 20) (N := 30) d_12_23 aw_int rfl (by decide) (by decide) (by decide +kernel) (by decide +kernel) (by decide) k_102 l_102 rfl (by decide +kernel) (by decide +kernel) (by decide +kernel) ?_
  refine C_putR d_12_25 fq_12_19 rfl k_99 rfl ?_
  refine P_aload_n d_12_28 rfl ?_
  refine P_bipush d_12_29 bi_30 ?_
  refine C_newarr (k := 20) (N := 30) d_12_31 aw_int rfl (by decide) (by decide) (by decide +kernel) (by decide +kernel) (by decide) k_103 l_103 rfl (by decide +kernel) (by decide +kernel) (by decide +kernel) ?_
  refine C_putR d_12_33 fq_12_22 rfl k_99 rfl ?_
  refine P_ret d_12_36 mr_12 (by decide +kernel) (by decide +kernel) ?_
  refine C_putR d_0_154 fq_0_81 rfl k_0 rfl ?_
  refine P_aload_n d_0_157 rfl ?_
  refine P_sipush d_0_158 si_256 ?_
  refine C_newarr (k := 20) (N := 256) d_0_161 aw_int rfl (by decide) (by decide) (by decide +kernel) (by decide +kernel) (by decide) k_104 l_104 rfl (by decide +kernel) (by decide +kernel) (by decide +kernel) ?_
  refine C_putR d_0_163 fq_0_85 rfl k_0 rfl ?_
  refine P_aload_n d_0_166 rfl ?_
  refine P_iconst d_0_167 ic_0 ?_
  refine C_putI d_0_168 fq_0_89 rfl k_0 rfl ?_
  refine P_aload_n d_0_171 rfl ?_
  refine P_iconst d_0_172 ic_m1 ?_
  refine C_putI d_0_173 fq_0_92 rfl k_0 rfl ?_
  refine P_ret d_0_176 mr_0 (by decide +kernel) (by decide +kernel) ?_
  refine C_astore_n d_329_7 ml_329 rfl rfl ?_
  refine C_new (ci := 12) d_329_8 rfl cw1_329_10 cw2_12 cw3_12 k_105 rfl (by decide +kernel) (by decide +kernel) (by decide +kernel) ?_
  refine P_dup d_329_11 rfl ?_
  refine P_callI (as := []) (x := 105) (st := [.ref 105]) d_329_12 lb_329_12 iw_199 mo_199 mr_199 (by decide +kernel) rfl rfl (by decide) (by decide) (by decide +kernel) (by decide +kernel) (by decide +kernel) ?_
  rw [show ent (mL 199) [.ref 105] = [.ref 105] by rw [ml_199]; rfl]
  refine P_aload_n d_199_0 rfl ?_
  refine P_objInit d_199_1 ow_199 (by decide) (by omega) (by decide) ?_
  refine P_aload_n d_199_4 rfl ?_
  refine P_sipush d_199_5 si_1600 ?_
  refine C_newarr (k := 20) (N := 1600) d_199_8 aw_int rfl (by decide) (by decide) (by decide +kernel) (by decide +kernel) (by decide) k_106 l_106 rfl (by decide +kernel) (by decide +kernel) (by decide +kernel) ?_
  refine C_putR d_199_10 fq_199_7 rfl k_105 rfl ?_
  refine P_aload_n d_199_13 rfl ?_
  refine P_iconst d_199_14 ic_m1 ?_
  refine C_putI d_199_15 fq_199_13 rfl k_105 rfl ?_
  refine P_aload_n d_199_18 rfl ?_
  refine P_bipush d_199_19 bi_16 ?_
  refine C_newarr (k := 21) (N := 16) d_199_21 aw_long rfl (by decide) (by decide) (by decide +kernel) (by decide +kernel) (by decide) k_107 l_107 rfl (by decide +kernel) (by decide +kernel) (by decide +kernel) ?_
  refine C_putR d_199_23 fq_199_17 rfl k_105 rfl ?_
  refine P_aload_n d_199_26 rfl ?_
  refine P_sipush d_199_27 si_320 ?_
  refine C_newarr (k := 20) (N := 320) d_199_30 aw_int rfl (by decide) (by decide) (by decide +kernel) (by decide +kernel) (by decide) k_108 l_108 rfl (by decide +kernel) (by decide +kernel) (by decide +kernel) ?_
  refine C_putR d_199_32 fq_199_21 rfl k_105 rfl ?_
  refine P_aload_n d_199_35 rfl ?_
  refine P_sipush d_199_36 si_320 ?_
  refine C_newarr (k := 20) (N := 320) d_199_39 aw_int rfl (by decide) (by decide) (by decide +kernel) (by decide +kernel) (by decide) k_109 l_109 rfl (by decide +kernel) (by decide +kernel) (by decide +kernel) ?_
  refine C_putR d_199_41 fq_199_24 rfl k_105 rfl ?_
  refine P_aload_n d_199_44 rfl ?_
  refine P_sipush d_199_45 si_320 ?_
  refine C_newarr (k := 20) (N := 320) d_199_48 aw_int rfl (by decide) (by decide) (by decide +kernel) (by decide +kernel) (by decide) k_110 l_110 rfl (by decide +kernel) (by decide +kernel) (by decide +kernel) ?_
  refine C_putR d_199_50 fq_199_27 rfl k_105 rfl ?_
  refine P_aload_n d_199_53 rfl ?_
  refine P_sipush d_199_54 si_320 ?_
  refine C_newarr (k := 20) (N := 320) d_199_57 aw_int rfl (by decide) (by decide) (by decide +kernel) (by decide +kernel) (by decide) k_111 l_111 rfl (by decide +kernel) (by decide +kernel) (by decide +kernel) ?_
  refine C_putR d_199_59 fq_199_30 rfl k_105 rfl ?_
  refine P_aload_n d_199_62 rfl ?_
  refine P_sipush d_199_63 si_160 ?_
  refine C_newarr (k := 20) (N := 160) d_199_66 aw_int rfl (by decide) (by decide) (by decide +kernel) (by decide +kernel) (by decide) k_112 l_112 rfl (by decide +kernel) (by decide +kernel) (by decide +kernel) ?_
  refine C_putR d_199_68 fq_199_33 rfl k_105 rfl ?_
  refine P_aload_n d_199_71 rfl ?_
  refine P_bipush d_199_72 bi_64 ?_
  refine C_newarr (k := 20) (N := 64) d_199_74 aw_int rfl (by decide) (by decide) (by decide +kernel) (by decide +kernel) (by decide) k_113 l_113 rfl (by decide +kernel) (by decide +kernel) (by decide +kernel) ?_
  refine C_putR d_199_76 fq_199_36 rfl k_105 rfl ?_
  refine P_aload_n d_199_79 rfl ?_
  refine P_bipush d_199_80 bi_6 ?_
  refine C_newarr (k := 20) (N := 6) d_199_82 aw_int rfl (by decide) (by decide) (by decide +kernel) (by decide +kernel) (by decide) k_114 l_114 rfl (by decide +kernel) (by decide +kernel) (by decide +kernel) ?_
  refine C_putR d_199_84 fq_199_39 rfl k_105 rfl ?_
  refine P_aload_n d_199_87 rfl ?_
  refine P_bipush d_199_88 bi_8 ?_
  refine C_newarr (k := 20) (N := 8) d_199_90 aw_int rfl (by decide) (by decide) (by decide +kernel) (by decide +kernel) (by decide) k_115 l_115 rfl (by decide +kernel) (by decide +kernel) (by decide +kernel) ?_
  refine C_putR d_199_92 fq_199_42 rfl k_105 rfl ?_
  refine P_aload_n d_199_95 rfl ?_
  refine P_bipush d_199_96 bi_8 ?_
  refine C_newarr (k := 20) (N := 8) d_199_98 aw_int rfl (by decide) (by decide) (by decide +kernel) (by decide +kernel) (by decide) k_116 l_116 rfl (by decide +kernel) (by decide +kernel) (by decide +kernel) ?_
  refine C_putR d_199_100 fq_199_45 rfl k_105 rfl ?_
  refine P_aload_n d_199_103 rfl ?_
  refine P_bipush d_199_104 bi_8 ?_
  refine C_newarr (k := 20) (N := 8) d_199_106 aw_int rfl (by decide) (by decide) (by decide +kernel) (by decide +kernel) (by decide) k_117 l_117 rfl (by decide +kernel) (by decide +kernel) (by decide +kernel) ?_
  refine C_putR d_199_108 fq_199_48 rfl k_105 rfl ?_
  refine P_aload_n d_199_111 rfl ?_
  refine P_bipush d_199_112 bi_8 ?_
  refine C_newarr (k := 20) (N := 8) d_199_114 aw_int rfl (by decide) (by decide) (by decide +kernel) (by decide +kernel) (by decide) k_118 l_118 rfl (by decide +kernel) (by decide +kernel) (by decide +kernel) ?_
  refine C_putR d_199_116 fq_199_51 rfl k_105 rfl ?_
  refine P_aload_n d_199_119 rfl ?_
  refine P_bipush d_199_120 bi_8 ?_
  refine C_newarr (k := 20) (N := 8) d_199_122 aw_int rfl (by decide) (by decide) (by decide +kernel) (by decide +kernel) (by decide) k_119 l_119 rfl (by decide +kernel) (by decide +kernel) (by decide +kernel) ?_
  refine C_putR d_199_124 fq_199_54 rfl k_105 rfl ?_
  refine P_aload_n d_199_127 rfl ?_
  refine P_bipush d_199_128 bi_8 ?_
  refine C_newarr (k := 20) (N := 8) d_199_130 aw_int rfl (by decide) (by decide) (by decide +kernel) (by decide +kernel) (by decide) k_120 l_120 rfl (by decide +kernel) (by decide +kernel) (by decide +kernel) ?_
  refine C_putR d_199_132 fq_199_57 rfl k_105 rfl ?_
  refine P_aload_n d_199_135 rfl ?_
  refine P_bipush d_199_136 bi_8 ?_
  refine C_newarr (k := 20) (N := 8) d_199_138 aw_int rfl (by decide) (by decide) (by decide +kernel) (by decide +kernel) (by decide) k_121 l_121 rfl (by decide +kernel) (by decide +kernel) (by decide +kernel) ?_
  refine C_putR d_199_140 fq_199_60 rfl k_105 rfl ?_
  refine P_aload_n d_199_143 rfl ?_
  refine P_bipush d_199_144 bi_8 ?_
  refine C_newarr (k := 20) (N := 8) d_199_146 aw_int rfl (by decide) (by decide) (by decide +kernel) (by decide +kernel) (by decide) k_122 l_122 rfl (by decide +kernel) (by decide +kernel) (by decide +kernel) ?_
  refine C_putR d_199_148 fq_199_63 rfl k_105 rfl ?_
  refine P_aload_n d_199_151 rfl ?_
  refine P_iconst d_199_152 ic_5 ?_
  refine C_newarr (k := 20) (N := 5) d_199_153 aw_int rfl (by decide) (by decide) (by decide +kernel) (by decide +kernel) (by decide) k_123 l_123 rfl (by decide +kernel) (by decide +kernel) (by decide +kernel) ?_
  refine C_putR d_199_155 fq_199_66 rfl k_105 rfl ?_
  refine P_aload_n d_199_158 rfl ?_
  refine P_sipush d_199_159 si_200 ?_
  refine C_newarr (k := 20) (N := 200) d_199_162 aw_int rfl (by decide) (by decide) (by decide +kernel) (by decide +kernel) (by decide) k_124 l_124 rfl (by decide +kernel) (by decide +kernel) (by decide +kernel) ?_
  refine C_putR d_199_164 fq_199_69 rfl k_105 rfl ?_
  refine P_aload_n d_199_167 rfl ?_
  refine P_sipush d_199_168 si_256 ?_
  refine C_newarr (k := 23) (N := 256) d_199_171 aw_boolean rfl (by decide) (by decide) (by decide +kernel) (by decide +kernel) (by decide) k_125 l_125 rfl (by decide +kernel) (by decide +kernel) (by decide +kernel) ?_
  refine C_putR d_199_173 fq_199_72 rfl k_105 rfl ?_
  refine P_aload_n d_199_176 rfl ?_
  refine P_sipush d_199_177 si_256 ?_
  refine C_newarr (k := 20) (N := 256) d_199_180 aw_int rfl (by decide) (by decide) (by decide +kernel) (by decide +kernel) (by decide) k_126 l_126 rfl (by decide +kernel) (by decide +kernel) (by decide +kernel) ?_
  refine C_putR d_199_182 fq_199_76 rfl k_105 rfl ?_
  refine P_aload_n d_199_185 rfl ?_
  refine P_sipush d_199_186 si_256 ?_
  refine C_newarr (k := 20) (N := 256) d_199_189 aw_int rfl (by decide) (by decide) (by decide +kernel) (by decide +kernel) (by decide) k_127 l_127 rfl (by decide +kernel) (by decide +kernel) (by decide +kernel) ?_
  refine C_putR d_199_191 fq_199_79 rfl k_105 rfl ?_
  refine P_aload_n d_199_194 rfl ?_
  refine P_sipush d_199_195 si_256 ?_
  refine C_newarr (k := 20) (N := 256) d_199_198 aw_int rfl (by decide) (by decide) (by decide +kernel) (by decide +kernel) (by decide) k_128 l_128 rfl (by decide +kernel) (by decide +kernel) (by decide +kernel) ?_
  refine C_putR d_199_200 fq_199_82 rfl k_105 rfl ?_
  refine P_aload_n d_199_203 rfl ?_
  refine P_sipush d_199_204 si_256 ?_
  refine C_newarr (k := 20) (N := 256) d_199_207 aw_int rfl (by decide) (by decide) (by decide +kernel) (by decide +kernel) (by decide) k_129 l_129 rfl (by decide +kernel) (by decide +kernel) (by decide +kernel) ?_
  refine C_putR d_199_209 fq_199_85 rfl k_105 rfl ?_
  refine P_aload_n d_199_212 rfl ?_
  refine P_sipush d_199_213 si_256 ?_
  refine C_newarr (k := 20) (N := 256) d_199_216 aw_int rfl (by decide) (by decide) (by decide +kernel) (by decide +kernel) (by decide) k_130 l_130 rfl (by decide +kernel) (by decide +kernel) (by decide +kernel) ?_
  refine C_putR d_199_218 fq_199_88 rfl k_105 rfl ?_
  refine P_aload_n d_199_221 rfl ?_
  refine P_sipush d_199_222 si_256 ?_
  refine C_newarr (k := 20) (N := 256) d_199_225 aw_int rfl (by decide) (by decide) (by decide +kernel) (by decide +kernel) (by decide) k_131 l_131 rfl (by decide +kernel) (by decide +kernel) (by decide +kernel) ?_
  refine C_putR d_199_227 fq_199_91 rfl k_105 rfl ?_
  refine P_aload_n d_199_230 rfl ?_
  refine P_bipush d_199_231 bi_30 ?_
  refine C_newarr (k := 20) (N := 30) d_199_233 aw_int rfl (by decide) (by decide) (by decide +kernel) (by decide +kernel) (by decide) k_132 l_132 rfl (by decide +kernel) (by decide +kernel) (by decide +kernel) ?_
  refine C_putR d_199_235 fq_199_94 rfl k_105 rfl ?_
  refine P_aload_n d_199_238 rfl ?_
  refine P_bipush d_199_239 bi_30 ?_
  refine C_newarr (k := 20) (N := 30) d_199_241 aw_int rfl (by decide) (by decide) (by decide +kernel) (by decide +kernel) (by decide) k_133 l_133 rfl (by decide +kernel) (by decide +kernel) (by decide +kernel) ?_
  refine C_putR d_199_243 fq_199_97 rfl k_105 rfl ?_
  refine P_aload_n d_199_246 rfl ?_
  refine P_bipush d_199_247 bi_30 ?_
  refine C_newarr (k := 20) (N := 30) d_199_249 aw_int rfl (by decide) (by decide) (by decide +kernel) (by decide +kernel) (by decide) k_134 l_134 rfl (by decide +kernel) (by decide +kernel) (by decide +kernel) ?_
  refine C_putR d_199_251 fq_199_100 rfl k_105 rfl ?_
  refine P_aload_n d_199_254 rfl ?_
  refine P_bipush d_199_255 bi_30 ?_
  refine C_newarr (k := 23) (N := 30) d_199_257 aw_boolean rfl (by decide) (by decide) (by decide +kernel) (by decide +kernel) (by decide) k_135 l_135 rfl (by decide +kernel) (by decide +kernel) (by decide +kernel) ?_
  refine C_putR d_199_259 fq_199_103 rfl k_105 rfl ?_
  refine P_aload_n d_199_262 rfl ?_
  refine P_iconst d_199_263 ic_3 ?_
  refine C_newarr (k := 23) (N := 3) d_199_264 aw_boolean rfl (by decide) (by decide) (by decide +kernel) (by decide +kernel) (by decide) k_136 l_136 rfl (by decide +kernel) (by decide +kernel) (by decide +kernel) ?_
  refine C_putR d_199_266 fq_199_106 rfl k_105 rfl ?_
  refine P_aload_n d_199_269 rfl ?_
  refine P_bipush d_199_270 bi_15 ?_
  refine C_newarr (k := 20) (N := 15) d_199_272 aw_int rfl (by decide) (by decide) (by decide +kernel) (by decide +kernel) (by decide) k_137 l_137 rfl (by decide +kernel) (by decide +kernel) (by decide +kernel) ?_
  refine C_putR d_199_274 fq_199_109 rfl k_105 rfl ?_
  refine P_ret d_199_277 mr_199 (by decide +kernel) (by decide +kernel) ?_
  refine C_astore_n d_329_15 ml_329 rfl rfl ?_
  refine P_iconst d_329_16 ic_0 ?_
  refine C_istore_n d_329_17 ml_329 rfl rfl ?_
  exact h
