noncomputable section
def f_C_silent (a1 : Int32) (M : AM) : Option (Int32 × AM) :=
  ckK (gR M 0 3) 5 (bnd (f_Acts_current  M) (fun r2 M3 => bnd (f_Sets_leastSilent (gR M 0 3) r2 M3) (fun r4 M5 => if 0 ≤ r4 then bnd (f_Int_bitCount r4 M5) (fun r6 M7 => bnd (f_C_either a1 r6 r4 M7) (fun r8 M9 => some (r8, M9))) else some ((-1), M5))))
set_option maxRecDepth 20000 in
theorem t_C_silent {G : GT} {d : Nat} {a1 : Int32} {M : AM} {Q : AM → Option Value → Prop} {r : Int32} {M' : AM} (hW : WT M)  (hf : f_C_silent a1 M = some (r, M')) (k : WT M' → Q M' (some (.int r)))  : Cal G (d + 2) 126 [.ref 0, .int a1] M Q := by
  refine A_enter ml_126 rfl ?_
  refine P_aload_n d_126_0 rfl ?_
  refine A_gF d_126_1 cn_126 fk_CordLoft_67 ft_12_9 k_0 hW ?_
  refine P_aload_n d_126_4 rfl ?_
  refine A_gM d_126_5 cn_126 fk_CordLoft_35 k_0 hW hf (fun hk1 hf => ?_)
  refine P_aload_n d_126_8 rfl ?_
  refine A_gF d_126_9 cn_126 fk_CordLoft_45 ft_12_5 k_0 hW ?_
  refine A_V0 d_126_12 vk_126_114 ml_78 rfl k_38 hW rfl hf (fun r2 M3 hc hf => t_Acts_current hW  hc (fun hW hb3 => ?_))
  refine A_V2 d_126_15 vk_126_219 ml_127 rfl k_86 hW rfl hf (fun r4 M5 hc hf => t_Sets_leastSilent hW hk1 hb3 hc (fun hW => ?_))
  refine A_istore_n d_126_18 ml_126 rfl rfl ?_
  refine P_iload_n d_126_19 rfl ?_
  refine A_if_ge (tgt := 27) d_126_20 rfl hf (fun hf => ?_) (fun hf => ?_)
  · refine P_iload_n d_126_27 rfl ?_
    refine P_iload_n d_126_28 rfl ?_
    refine A_S1 d_126_29 sk_126_167 ml_92 rfl rfl hf (fun r6 M7 hc hf => t_Int_bitCount hW  hc (fun hW => ?_))
    refine P_iload_n d_126_32 rfl ?_
    refine A_S3 d_126_33 sk_126_132 ml_84 rfl rfl hf (fun r8 M9 hc hf => t_C_either hW  hc (fun hW => ?_))
    exact A_iret d_126_36 mr_126 hW hf k
  · refine A_iconst d_126_23 ic_m1 ?_
    refine P_goto (tgt := 36) d_126_24 rfl ?_
    exact A_iret d_126_36 mr_126 hW hf k
def f_C_freeCords  (M : AM) : Option (Int32 × AM) :=
  ckK (gR M 0 3) 5 (bnd (f_Plan_allCords (gR M 0 3) M) (fun r2 M3 => bnd (f_Acts_current  M3) (fun r4 M5 => some (r2 &&& ((gI M5 r4 1) ^^^ (-1)), M5))))
set_option maxRecDepth 20000 in
theorem t_C_freeCords {G : GT} {d : Nat}  {M : AM} {Q : AM → Option Value → Prop} {r : Int32} {M' : AM} (hW : WT M)  (hf : f_C_freeCords  M = some (r, M')) (k : WT M' → Q M' (some (.int r)))  : Cal G (d + 1) 129 [.ref 0] M Q := by
  refine A_enter ml_129 rfl ?_
  refine P_aload_n d_129_0 rfl ?_
  refine A_gM d_129_1 cn_129 fk_CordLoft_35 k_0 hW hf (fun hk1 hf => ?_)
  refine A_V0 d_129_4 vk_129_365 ml_117 rfl hk1 hW rfl hf (fun r2 M3 hc hf => t_Plan_allCords hW hk1 hc (fun hW => ?_))
  refine P_aload_n d_129_7 rfl ?_
  refine A_gF d_129_8 cn_129 fk_CordLoft_45 ft_12_5 k_0 hW ?_
  refine A_V0 d_129_11 vk_129_114 ml_78 rfl k_38 hW rfl hf (fun r4 M5 hc hf => t_Acts_current hW  hc (fun hW hb5 => ?_))
  refine A_gI d_129_14 cn_129 fk_CordLoft_161 hb5 hW ?_
  refine A_iconst d_129_17 ic_m1 ?_
  refine P_ixor d_129_18 ?_
  refine P_iand d_129_19 ?_
  exact A_iret d_129_20 mr_129 hW hf k
def f_Sets_restOf_b4 (rec : Int32 → Int32 → AM → Option (Int32 × AM))  (v2 : Int32) (v3 : Int32) (M : AM) : Option (Int32 × AM) :=
  if 8 ≤ v3 then some (v2, M) else if ((v2 >>> (v3 &&& 31)) &&& 1) = 0 then rec v2 (v3 + 1) M else ald 8 M 91 v3 (fun x1 => if x1 = 0 then rec v2 (v3 + 1) M else ald 8 M 91 v3 (fun x2 => rec (v2 ^^^ x2) (v3 + 1) M))
def f_Sets_restOf_l4  : Nat → Int32 → Int32 → AM → Option (Int32 × AM)
  | 0, _, _, _ => none
  | n + 1, v2, v3, M => f_Sets_restOf_b4 (f_Sets_restOf_l4  n)  v2 v3 M
set_option maxRecDepth 20000 in
theorem t_Sets_restOf_b4 {G : GT} {d : Nat}  {v2 : Int32} {v3 : Int32} {M : AM} {Q : AM → Option Value → Prop} {yo : Int32} {Mo : AM} {rec : Int32 → Int32 → AM → Option (Int32 × AM)} (hrec : ∀ (v2 : Int32) (v3 : Int32) (M : AM), WT M → rec v2 v3 M = some (yo, Mo) → PW G d 131 4 [.ref 86, ux, .int v2, .int v3] [] M 0 0 Q) (k1 : WT Mo → PW G d 131 42 [ux, ux, .int yo, ux] [] Mo 0 0 Q) (hW : WT M)   (hf : f_Sets_restOf_b4 rec  v2 v3 M = some (yo, Mo)) : PW G d 131 4 [.ref 86, ux, .int v2, .int v3] [] M 0 0 Q := by
  refine P_iload_n d_131_4 rfl ?_
  refine P_bipush d_131_5 bi_8 ?_
  refine A_icmp_ge (tgt := 42) d_131_7 rfl hf (fun hf => ?_) (fun hf => ?_)
  · refine P_fgt [false, false, true, false] ?_
    cases hf
    exact k1 hW 
  · refine P_iload_n d_131_10 rfl ?_
    refine P_iload_n d_131_11 rfl ?_
    refine P_ishr d_131_12 ?_
    refine A_iconst d_131_13 ic_1 ?_
    refine P_iand d_131_14 ?_
    refine A_if_eq (tgt := 36) d_131_15 rfl hf (fun hf => ?_) (fun hf => ?_)
    · refine A_iinc d_131_36 ic_1 rfl ml_131 rfl rfl ?_
      refine P_goto (tgt := 4) d_131_39 rfl ?_
      exact hrec _ _ _ hW  hf
    · refine P_aload_n d_131_18 rfl ?_
      refine A_gF d_131_19 cn_131 fk_CordLoft_Sets_30 ft_7_4 k_86 hW ?_
      refine P_iload_n d_131_22 rfl ?_
      refine A_iald d_131_23 k_91 l_91 hW hf (fun hf => ?_)
      refine A_if_eq (tgt := 36) d_131_24 rfl hf (fun hf => ?_) (fun hf => ?_)
      · refine A_iinc d_131_36 ic_1 rfl ml_131 rfl rfl ?_
        refine P_goto (tgt := 4) d_131_39 rfl ?_
        exact hrec _ _ _ hW  hf
      · refine P_iload_n d_131_27 rfl ?_
        refine P_aload_n d_131_28 rfl ?_
        refine A_gF d_131_29 cn_131 fk_CordLoft_Sets_30 ft_7_4 k_86 hW ?_
        refine P_iload_n d_131_32 rfl ?_
        refine A_iald d_131_33 k_91 l_91 hW hf (fun hf => ?_)
        refine P_ixor d_131_34 ?_
        refine A_istore_n d_131_35 ml_131 rfl rfl ?_
        refine A_iinc d_131_36 ic_1 rfl ml_131 rfl rfl ?_
        refine P_goto (tgt := 4) d_131_39 rfl ?_
        exact hrec _ _ _ hW  hf
theorem t_Sets_restOf_l4 {G : GT} {d : Nat}  {Q : AM → Option Value → Prop} {yo : Int32} {Mo : AM} (k1 : WT Mo → PW G d 131 42 [ux, ux, .int yo, ux] [] Mo 0 0 Q)  : ∀ (z : Nat) (v2 : Int32) (v3 : Int32) (M : AM), WT M → f_Sets_restOf_l4  z v2 v3 M = some (yo, Mo) → PW G d 131 4 [.ref 86, ux, .int v2, .int v3] [] M 0 0 Q := by
  intro z
  induction z with
  | zero => intro v2 v3 M hW hf; cases hf
  | succ z ih => intro v2 v3 M hW hf; exact t_Sets_restOf_b4 (fun v2 v3 M hW hf => ih v2 v3 M hW hf) k1 hW   hf
def f_Sets_restOf (a1 : Int32) (M : AM) : Option (Int32 × AM) :=
  bnd (f_Sets_restOf_l4  fu a1 0 M) (fun y1 M2 => some (y1, M2))
set_option maxRecDepth 20000 in
theorem t_Sets_restOf {G : GT} {d : Nat} {a1 : Int32} {M : AM} {Q : AM → Option Value → Prop} {r : Int32} {M' : AM} (hW : WT M)  (hf : f_Sets_restOf a1 M = some (r, M')) (k : WT M' → Q M' (some (.int r)))  : Cal G d 131 [.ref 86, .int a1] M Q := by
  refine A_enter ml_131 rfl ?_
  refine P_iload_n d_131_0 rfl ?_
  refine A_istore_n d_131_1 ml_131 rfl rfl ?_
  refine A_iconst d_131_2 ic_0 ?_
  refine A_istore_n d_131_3 ml_131 rfl rfl ?_
  obtain ⟨y1, M2, hl, hf⟩ := bnd_some hf
  refine P_fgt [true, false, true, true] ?_
  refine t_Sets_restOf_l4 (fun hW => ?_)  fu _ _ _ hW  hl
  refine P_iload_n d_131_42 rfl ?_
  exact A_iret d_131_43 mr_131 hW hf k
def f_Int_numberOfTrailingZeros_j74 (v0 : Int32) (v1 : Int32) (M : AM) : Option (Int32 × AM) :=
  some (v1 + (((v0).toUInt32 >>> ((1 : Int32).toUInt32 &&& Int32.toUInt32 31)).toInt32), M)
set_option maxRecDepth 20000 in
theorem t_Int_numberOfTrailingZeros_j74 {G : GT} {d : Nat} {v0 : Int32} {v1 : Int32} {M : AM} {Q : AM → Option Value → Prop} {r : Int32} {M' : AM} (k : WT M' → Q M' (some (.int r))) (hW : WT M)  (hf : f_Int_numberOfTrailingZeros_j74 v0 v1 M = some (r, M')) : PW G d 132 74 [.int v0, .int v1] [] M 0 0 Q := by
  refine P_iload_n d_132_74 rfl ?_
  refine P_iload_n d_132_75 rfl ?_
  refine A_iconst d_132_76 ic_1 ?_
  refine P_iushr d_132_77 ?_
  refine P_iadd d_132_78 ?_
  exact A_iret d_132_79 mr_132 hW hf k
def f_Int_numberOfTrailingZeros_j62 (v0 : Int32) (v1 : Int32) (M : AM) : Option (Int32 × AM) :=
  if v0 ≤ 4 then f_Int_numberOfTrailingZeros_j74 v0 v1 M else f_Int_numberOfTrailingZeros_j74 (((v0).toUInt32 >>> ((2 : Int32).toUInt32 &&& Int32.toUInt32 31)).toInt32) (v1 + 2) M
set_option maxRecDepth 20000 in
theorem t_Int_numberOfTrailingZeros_j62 {G : GT} {d : Nat} {v0 : Int32} {v1 : Int32} {M : AM} {Q : AM → Option Value → Prop} {r : Int32} {M' : AM} (k : WT M' → Q M' (some (.int r))) (hW : WT M)  (hf : f_Int_numberOfTrailingZeros_j62 v0 v1 M = some (r, M')) : PW G d 132 62 [.int v0, .int v1] [] M 0 0 Q := by
  refine P_iload_n d_132_62 rfl ?_
  refine A_iconst d_132_63 ic_4 ?_
  refine A_icmp_le (tgt := 74) d_132_64 rfl hf (fun hf => ?_) (fun hf => ?_)
  · exact t_Int_numberOfTrailingZeros_j74 k hW  hf
  · refine A_iinc d_132_67 ic_2 rfl ml_132 rfl rfl ?_
    refine P_iload_n d_132_70 rfl ?_
    refine A_iconst d_132_71 ic_2 ?_
    refine P_iushr d_132_72 ?_
    refine A_istore_n d_132_73 ml_132 rfl rfl ?_
    exact t_Int_numberOfTrailingZeros_j74 k hW  hf
def f_Int_numberOfTrailingZeros_j49 (v0 : Int32) (v1 : Int32) (M : AM) : Option (Int32 × AM) :=
  if v0 ≤ 16 then f_Int_numberOfTrailingZeros_j62 v0 v1 M else f_Int_numberOfTrailingZeros_j62 (((v0).toUInt32 >>> ((4 : Int32).toUInt32 &&& Int32.toUInt32 31)).toInt32) (v1 + 4) M
set_option maxRecDepth 20000 in
theorem t_Int_numberOfTrailingZeros_j49 {G : GT} {d : Nat} {v0 : Int32} {v1 : Int32} {M : AM} {Q : AM → Option Value → Prop} {r : Int32} {M' : AM} (k : WT M' → Q M' (some (.int r))) (hW : WT M)  (hf : f_Int_numberOfTrailingZeros_j49 v0 v1 M = some (r, M')) : PW G d 132 49 [.int v0, .int v1] [] M 0 0 Q := by
  refine P_iload_n d_132_49 rfl ?_
  refine P_bipush d_132_50 bi_16 ?_
  refine A_icmp_le (tgt := 62) d_132_52 rfl hf (fun hf => ?_) (fun hf => ?_)
  · exact t_Int_numberOfTrailingZeros_j62 k hW  hf
  · refine A_iinc d_132_55 ic_4 rfl ml_132 rfl rfl ?_
    refine P_iload_n d_132_58 rfl ?_
    refine A_iconst d_132_59 ic_4 ?_
    refine P_iushr d_132_60 ?_
    refine A_istore_n d_132_61 ml_132 rfl rfl ?_
    exact t_Int_numberOfTrailingZeros_j62 k hW  hf
def f_Int_numberOfTrailingZeros_j34 (v0 : Int32) (v1 : Int32) (M : AM) : Option (Int32 × AM) :=
  if v0 ≤ 256 then f_Int_numberOfTrailingZeros_j49 v0 v1 M else f_Int_numberOfTrailingZeros_j49 (((v0).toUInt32 >>> ((8 : Int32).toUInt32 &&& Int32.toUInt32 31)).toInt32) (v1 + 8) M
set_option maxRecDepth 20000 in
theorem t_Int_numberOfTrailingZeros_j34 {G : GT} {d : Nat} {v0 : Int32} {v1 : Int32} {M : AM} {Q : AM → Option Value → Prop} {r : Int32} {M' : AM} (k : WT M' → Q M' (some (.int r))) (hW : WT M)  (hf : f_Int_numberOfTrailingZeros_j34 v0 v1 M = some (r, M')) : PW G d 132 34 [.int v0, .int v1] [] M 0 0 Q := by
  refine P_iload_n d_132_34 rfl ?_
  refine P_sipush d_132_35 si_256 ?_
  refine A_icmp_le (tgt := 49) d_132_38 rfl hf (fun hf => ?_) (fun hf => ?_)
  · exact t_Int_numberOfTrailingZeros_j49 k hW  hf
  · refine A_iinc d_132_41 ic_8 rfl ml_132 rfl rfl ?_
    refine P_iload_n d_132_44 rfl ?_
    refine P_bipush d_132_45 bi_8 ?_
    refine P_iushr d_132_47 ?_
    refine A_istore_n d_132_48 ml_132 rfl rfl ?_
    exact t_Int_numberOfTrailingZeros_j49 k hW  hf
def f_Int_numberOfTrailingZeros (a0 : Int32) (M : AM) : Option (Int32 × AM) :=
  if 0 < ((a0 ^^^ (-1)) &&& (a0 - 1)) then if ((a0 ^^^ (-1)) &&& (a0 - 1)) ≤ 65536 then f_Int_numberOfTrailingZeros_j34 ((a0 ^^^ (-1)) &&& (a0 - 1)) 1 M else f_Int_numberOfTrailingZeros_j34 (((((a0 ^^^ (-1)) &&& (a0 - 1))).toUInt32 >>> ((16 : Int32).toUInt32 &&& Int32.toUInt32 31)).toInt32) (1 + 16) M else some (((a0 ^^^ (-1)) &&& (a0 - 1)) &&& 32, M)
set_option maxRecDepth 20000 in
theorem t_Int_numberOfTrailingZeros {G : GT} {d : Nat} {a0 : Int32} {M : AM} {Q : AM → Option Value → Prop} {r : Int32} {M' : AM} (hW : WT M)  (hf : f_Int_numberOfTrailingZeros a0 M = some (r, M')) (k : WT M' → Q M' (some (.int r)))  : Cal G d 132 [.int a0] M Q := by
  refine A_enter ml_132 rfl ?_
  refine P_iload_n d_132_0 rfl ?_
  refine A_iconst d_132_1 ic_m1 ?_
  refine P_ixor d_132_2 ?_
  refine P_iload_n d_132_3 rfl ?_
  refine A_iconst d_132_4 ic_1 ?_
  refine P_isub d_132_5 ?_
  refine P_iand d_132_6 ?_
  refine A_istore_n d_132_7 ml_132 rfl rfl ?_
  refine P_iload_n d_132_8 rfl ?_
  refine A_if_gt (tgt := 17) d_132_9 rfl hf (fun hf => ?_) (fun hf => ?_)
  · refine A_iconst d_132_17 ic_1 ?_
    refine A_istore_n d_132_18 ml_132 rfl rfl ?_
    refine P_iload_n d_132_19 rfl ?_
    refine A_ldcw d_132_20 cn_132 cw_java_lang_Integer_264 ?_
    refine A_icmp_le (tgt := 34) d_132_23 rfl hf (fun hf => ?_) (fun hf => ?_)
    · exact t_Int_numberOfTrailingZeros_j34 k hW  hf
    · refine A_iinc d_132_26 ic_16 rfl ml_132 rfl rfl ?_
      refine P_iload_n d_132_29 rfl ?_
      refine P_bipush d_132_30 bi_16 ?_
      refine P_iushr d_132_32 ?_
      refine A_istore_n d_132_33 ml_132 rfl rfl ?_
      exact t_Int_numberOfTrailingZeros_j34 k hW  hf
  · refine P_iload_n d_132_12 rfl ?_
    refine P_bipush d_132_13 bi_32 ?_
    refine P_iand d_132_15 ?_
    exact A_iret d_132_16 mr_132 hW hf k
def f_Sets_reach_j59 (rec : Int32 → Int32 → AM → Option (Int32 × AM)) (v1 : Nat) (v2 : Int32) (v3 : Int32) (v4 : Int32) (s0 : Int32) (M : AM) : Option (Int32 × AM) :=
  if s0 = 0 then rec v3 (v4 + 1) M else bnd (f_Int_numberOfTrailingZeros s0 M) (fun r1 M2 => ast 8 M2 91 (r1 % 8) s0 (fun M3 => rec (v3 * 2) (v4 + 1) M3))
set_option maxRecDepth 20000 in
theorem t_Sets_reach_j59 {G : GT} {d : Nat} {v1 : Nat} {v2 : Int32} {v3 : Int32} {v4 : Int32} {s0 : Int32} {M : AM} {Q : AM → Option Value → Prop} {yo : Int32} {Mo : AM} {rec : Int32 → Int32 → AM → Option (Int32 × AM)} (hrec : ∀ (v3 : Int32) (v4 : Int32) (M : AM), WT M → rec v3 v4 M = some (yo, Mo) → PW G (d + 1) 130 26 [.ref 86, .ref v1, .int v2, .int v3, .int v4, ux] [] M 0 0 Q) (k1 : WT Mo → PW G (d + 1) 130 91 [ux, ux, ux, .int yo, ux, ux] [] Mo 0 0 Q) (hW : WT M) (hv1 : kd0 v1 = 5) (hf : f_Sets_reach_j59 rec v1 v2 v3 v4 s0 M = some (yo, Mo)) : PW G (d + 1) 130 59 [.ref 86, .ref v1, .int v2, .int v3, .int v4, ux] [.int s0] M 0 0 Q := by
  refine A_istore d_130_59 ml_130 rfl rfl ?_
  refine P_iload d_130_61 rfl ?_
  refine A_if_eq (tgt := 85) d_130_63 rfl hf (fun hf => ?_) (fun hf => ?_)
  · refine A_iinc d_130_85 ic_1 rfl ml_130 rfl rfl ?_
    refine P_goto (tgt := 26) d_130_88 rfl ?_
    refine P_fgt [true, true, true, true, true, false] ?_
    exact hrec _ _ _ hW  hf
  · refine P_aload_n d_130_66 rfl ?_
    refine A_gF d_130_67 cn_130 fk_CordLoft_Sets_30 ft_7_4 k_86 hW ?_
    refine P_iload d_130_70 rfl ?_
    refine A_S1 d_130_72 sk_130_83 ml_132 rfl rfl hf (fun r1 M2 hc hf => t_Int_numberOfTrailingZeros hW  hc (fun hW => ?_))
    refine P_bipush d_130_75 bi_8 ?_
    refine P_irem d_130_77 nz_8 ?_
    refine P_iload d_130_78 rfl ?_
    refine A_iast d_130_80 k_91 l_91 hW hf (fun hW hf => ?_)
    refine P_iload_n d_130_81 rfl ?_
    refine A_iconst d_130_82 ic_2 ?_
    refine P_imul d_130_83 ?_
    refine A_istore_n d_130_84 ml_130 rfl rfl ?_
    refine A_iinc d_130_85 ic_1 rfl ml_130 rfl rfl ?_
    refine P_goto (tgt := 26) d_130_88 rfl ?_
    refine P_fgt [true, true, true, true, true, false] ?_
    exact hrec _ _ _ hW  hf
def f_Sets_reach_b26 (rec : Int32 → Int32 → AM → Option (Int32 × AM)) (v1 : Nat) (v2 : Int32) (v3 : Int32) (v4 : Int32) (M : AM) : Option (Int32 × AM) :=
  if (gI M v1 6) ≤ v4 then some (v3, M) else if ((v2 >>> (v4 &&& 31)) &&& 1) = 0 then f_Sets_reach_j59 rec v1 v2 v3 v4 0 M else ald 8 M (v1 + 6) v4 (fun x1 => bnd (f_Sets_restOf x1 M) (fun r2 M3 => f_Sets_reach_j59 rec v1 v2 v3 v4 r2 M3))
def f_Sets_reach_l26 (v1 : Nat) (v2 : Int32) : Nat → Int32 → Int32 → AM → Option (Int32 × AM)
  | 0, _, _, _ => none
  | n + 1, v3, v4, M => f_Sets_reach_b26 (f_Sets_reach_l26 v1 v2 n) v1 v2 v3 v4 M
set_option maxRecDepth 20000 in
theorem t_Sets_reach_b26 {G : GT} {d : Nat} {v1 : Nat} {v2 : Int32} {v3 : Int32} {v4 : Int32} {M : AM} {Q : AM → Option Value → Prop} {yo : Int32} {Mo : AM} {rec : Int32 → Int32 → AM → Option (Int32 × AM)} (hrec : ∀ (v3 : Int32) (v4 : Int32) (M : AM), WT M → rec v3 v4 M = some (yo, Mo) → PW G (d + 1) 130 26 [.ref 86, .ref v1, .int v2, .int v3, .int v4, ux] [] M 0 0 Q) (k1 : WT Mo → PW G (d + 1) 130 91 [ux, ux, ux, .int yo, ux, ux] [] Mo 0 0 Q) (hW : WT M) (hv1 : kd0 v1 = 5)  (hf : f_Sets_reach_b26 rec v1 v2 v3 v4 M = some (yo, Mo)) : PW G (d + 1) 130 26 [.ref 86, .ref v1, .int v2, .int v3, .int v4, ux] [] M 0 0 Q := by
  refine P_iload d_130_26 rfl ?_
  refine P_aload_n d_130_28 rfl ?_
  refine A_gI d_130_29 cn_130 fk_CordLoft_Sets_74 hv1 hW ?_
  refine A_icmp_ge (tgt := 91) d_130_32 rfl hf (fun hf => ?_) (fun hf => ?_)
  · refine P_fgt [false, false, false, true, false, false] ?_
    cases hf
    exact k1 hW 
  · refine P_iload_n d_130_35 rfl ?_
    refine P_iload d_130_36 rfl ?_
    refine P_ishr d_130_38 ?_
    refine A_iconst d_130_39 ic_1 ?_
    refine P_iand d_130_40 ?_
    refine A_if_ne (tgt := 48) d_130_41 rfl hf (fun hf => ?_) (fun hf => ?_)
    · refine P_aload_n d_130_48 rfl ?_
      refine P_aload_n d_130_49 rfl ?_
      refine A_gFr d_130_50 cn_130 fk_CordLoft_Sets_77 ft_5_8 hv1 hW ?_
      refine P_iload d_130_53 rfl ?_
      refine A_iald d_130_55 (kr_5_6 hv1) (lr_5_6 hv1) hW hf (fun hf => ?_)
      refine A_V1 d_130_56 vk_130_80 ml_131 rfl k_86 hW rfl hf (fun r2 M3 hc hf => t_Sets_restOf hW  hc (fun hW => ?_))
      exact t_Sets_reach_j59 hrec k1 hW hv1 hf
    · refine A_iconst d_130_44 ic_0 ?_
      refine P_goto (tgt := 59) d_130_45 rfl ?_
      exact t_Sets_reach_j59 hrec k1 hW hv1 hf
theorem t_Sets_reach_l26 {G : GT} {d : Nat} {v1 : Nat} {v2 : Int32} {Q : AM → Option Value → Prop} {yo : Int32} {Mo : AM} (k1 : WT Mo → PW G (d + 1) 130 91 [ux, ux, ux, .int yo, ux, ux] [] Mo 0 0 Q) (hv1 : kd0 v1 = 5) : ∀ (z : Nat) (v3 : Int32) (v4 : Int32) (M : AM), WT M → f_Sets_reach_l26 v1 v2 z v3 v4 M = some (yo, Mo) → PW G (d + 1) 130 26 [.ref 86, .ref v1, .int v2, .int v3, .int v4, ux] [] M 0 0 Q := by
  intro z
  induction z with
  | zero => intro v3 v4 M hW hf; cases hf
  | succ z ih => intro v3 v4 M hW hf; exact t_Sets_reach_b26 (fun v3 v4 M hW hf => ih v3 v4 M hW hf) k1 hW hv1  hf
def f_Sets_reach_b2 (rec : Int32 → AM → Option (Unit × AM)) (v1 : Nat) (v2 : Int32) (v3 : Int32) (M : AM) : Option (Unit × AM) :=
  if 8 ≤ v3 then some ((), M) else ast 8 M 91 v3 0 (fun M1 => rec (v3 + 1) M1)
def f_Sets_reach_l2 (v1 : Nat) (v2 : Int32) : Nat → Int32 → AM → Option (Unit × AM)
  | 0, _, _ => none
  | n + 1, v3, M => f_Sets_reach_b2 (f_Sets_reach_l2 v1 v2 n) v1 v2 v3 M
set_option maxRecDepth 20000 in
theorem t_Sets_reach_b2 {G : GT} {d : Nat} {v1 : Nat} {v2 : Int32} {v3 : Int32} {M : AM} {Q : AM → Option Value → Prop} {yo : Unit} {Mo : AM} {rec : Int32 → AM → Option (Unit × AM)} (hrec : ∀ (v3 : Int32) (M : AM), WT M → rec v3 M = some (yo, Mo) → PW G (d + 1) 130 2 [.ref 86, .ref v1, .int v2, .int v3, ux, ux] [] M 0 0 Q) (k1 : WT Mo → PW G (d + 1) 130 21 [.ref 86, .ref v1, .int v2, ux, ux, ux] [] Mo 0 0 Q) (hW : WT M) (hv1 : kd0 v1 = 5)  (hf : f_Sets_reach_b2 rec v1 v2 v3 M = some (yo, Mo)) : PW G (d + 1) 130 2 [.ref 86, .ref v1, .int v2, .int v3, ux, ux] [] M 0 0 Q := by
  refine P_iload_n d_130_2 rfl ?_
  refine P_bipush d_130_3 bi_8 ?_
  refine A_icmp_ge (tgt := 21) d_130_5 rfl hf (fun hf => ?_) (fun hf => ?_)
  · refine P_fgt [true, true, true, false, false, false] ?_
    cases hf
    exact k1 hW 
  · refine P_aload_n d_130_8 rfl ?_
    refine A_gF d_130_9 cn_130 fk_CordLoft_Sets_30 ft_7_4 k_86 hW ?_
    refine P_iload_n d_130_12 rfl ?_
    refine A_iconst d_130_13 ic_0 ?_
    refine A_iast d_130_14 k_91 l_91 hW hf (fun hW hf => ?_)
    refine A_iinc d_130_15 ic_1 rfl ml_130 rfl rfl ?_
    refine P_goto (tgt := 2) d_130_18 rfl ?_
    exact hrec _ _ hW  hf
theorem t_Sets_reach_l2 {G : GT} {d : Nat} {v1 : Nat} {v2 : Int32} {Q : AM → Option Value → Prop} {yo : Unit} {Mo : AM} (k1 : WT Mo → PW G (d + 1) 130 21 [.ref 86, .ref v1, .int v2, ux, ux, ux] [] Mo 0 0 Q) (hv1 : kd0 v1 = 5) : ∀ (z : Nat) (v3 : Int32) (M : AM), WT M → f_Sets_reach_l2 v1 v2 z v3 M = some (yo, Mo) → PW G (d + 1) 130 2 [.ref 86, .ref v1, .int v2, .int v3, ux, ux] [] M 0 0 Q := by
  intro z
  induction z with
  | zero => intro v3 M hW hf; cases hf
  | succ z ih => intro v3 M hW hf; exact t_Sets_reach_b2 (fun v3 M hW hf => ih v3 M hW hf) k1 hW hv1  hf
def f_Sets_reach (a1 : Nat) (a2 : Int32) (M : AM) : Option (Int32 × AM) :=
  bnd (f_Sets_reach_l2 a1 a2 fu 0 M) (fun y1 M2 => bnd (f_Sets_reach_l26 a1 a2 fu 1 0 M2) (fun y3 M4 => some (y3, M4)))
set_option maxRecDepth 20000 in
theorem t_Sets_reach {G : GT} {d : Nat} {a1 : Nat} {a2 : Int32} {M : AM} {Q : AM → Option Value → Prop} {r : Int32} {M' : AM} (hW : WT M) (ha1 : kd0 a1 = 5) (hf : f_Sets_reach a1 a2 M = some (r, M')) (k : WT M' → Q M' (some (.int r)))  : Cal G (d + 1) 130 [.ref 86, .ref a1, .int a2] M Q := by
  refine A_enter ml_130 rfl ?_
  refine A_iconst d_130_0 ic_0 ?_
  refine A_istore_n d_130_1 ml_130 rfl rfl ?_
  obtain ⟨y1, M2, hl, hf⟩ := bnd_some hf
  refine t_Sets_reach_l2 (fun hW => ?_) ha1 fu _ _ hW  hl
  refine A_iconst d_130_21 ic_1 ?_
  refine A_istore_n d_130_22 ml_130 rfl rfl ?_
  refine A_iconst d_130_23 ic_0 ?_
  refine A_istore d_130_24 ml_130 rfl rfl ?_
  obtain ⟨y3, M4, hl, hf⟩ := bnd_some hf
  refine t_Sets_reach_l26 (fun hW => ?_) ha1 fu _ _ _ hW  hl
  refine P_iload_n d_130_91 rfl ?_
  exact A_iret d_130_92 mr_130 hW hf k
def f_C_pictures  (M : AM) : Option (Int32 × AM) :=
  ckK (gR M 0 3) 5 (bnd (f_C_freeCords  M) (fun r2 M3 => bnd (f_Sets_reach (gR M 0 3) r2 M3) (fun r4 M5 => some (r4, M5))))
set_option maxRecDepth 20000 in
theorem t_C_pictures {G : GT} {d : Nat}  {M : AM} {Q : AM → Option Value → Prop} {r : Int32} {M' : AM} (hW : WT M)  (hf : f_C_pictures  M = some (r, M')) (k : WT M' → Q M' (some (.int r)))  : Cal G (d + 2) 128 [.ref 0] M Q := by
  refine A_enter ml_128 rfl ?_
  refine P_aload_n d_128_0 rfl ?_
  refine A_gF d_128_1 cn_128 fk_CordLoft_67 ft_12_9 k_0 hW ?_
  refine P_aload_n d_128_4 rfl ?_
  refine A_gM d_128_5 cn_128 fk_CordLoft_35 k_0 hW hf (fun hk1 hf => ?_)
  refine P_aload_n d_128_8 rfl ?_
  refine A_V0 d_128_9 vk_128_223 ml_129 rfl k_0 hW rfl hf (fun r2 M3 hc hf => t_C_freeCords hW  hc (fun hW => ?_))
  refine A_V2 d_128_12 vk_128_227 ml_130 rfl k_86 hW rfl hf (fun r4 M5 hc hf => t_Sets_reach hW hk1 hc (fun hW => ?_))
  exact A_iret d_128_15 mr_128 hW hf k
def f_C_spare_b23 (rec : Int32 → Int32 → AM → Option (Int32 × AM)) (v1 : Int32) (v2 : Int32) (v3 : Int32) (v4 : Int32) (M : AM) : Option (Int32 × AM) :=
  ckK (gR M 0 3) 5 (if (gI M (gR M 0 3) 6) ≤ v4 then some (v3, M) else if (v1 &&& ((1 : Int32) <<< (v4 &&& 31))) = 0 then rec v3 (v4 + 1) M else ckK (gR M 0 3) 5 (bnd (f_Sets_reach (gR M 0 3) (v1 &&& (((1 : Int32) <<< (v4 &&& 31)) ^^^ (-1))) M) (fun r3 M4 => if r3 = v2 then rec (v3 ||| ((1 : Int32) <<< (v4 &&& 31))) (v4 + 1) M4 else rec v3 (v4 + 1) M4)))
def f_C_spare_l23 (v1 : Int32) (v2 : Int32) : Nat → Int32 → Int32 → AM → Option (Int32 × AM)
  | 0, _, _, _ => none
  | n + 1, v3, v4, M => f_C_spare_b23 (f_C_spare_l23 v1 v2 n) v1 v2 v3 v4 M
set_option maxRecDepth 20000 in
theorem t_C_spare_b23 {G : GT} {d : Nat} {v1 : Int32} {v2 : Int32} {v3 : Int32} {v4 : Int32} {M : AM} {Q : AM → Option Value → Prop} {yo : Int32} {Mo : AM} {rec : Int32 → Int32 → AM → Option (Int32 × AM)} (hrec : ∀ (v3 : Int32) (v4 : Int32) (M : AM), WT M → rec v3 v4 M = some (yo, Mo) → PW G (d + 2) 133 23 [.ref 0, .int v1, .int v2, .int v3, .int v4, ux] [] M 0 0 Q) (k1 : WT Mo → PW G (d + 2) 133 80 [ux, ux, ux, .int yo, ux, ux] [] Mo 0 0 Q) (hW : WT M)   (hf : f_C_spare_b23 rec v1 v2 v3 v4 M = some (yo, Mo)) : PW G (d + 2) 133 23 [.ref 0, .int v1, .int v2, .int v3, .int v4, ux] [] M 0 0 Q := by
  refine P_iload d_133_23 rfl ?_
  refine P_aload_n d_133_25 rfl ?_
  refine A_gM d_133_26 cn_133 fk_CordLoft_35 k_0 hW hf (fun hk1 hf => ?_)
  refine A_gI d_133_29 cn_133 fk_CordLoft_231 hk1 hW ?_
  refine A_icmp_ge (tgt := 80) d_133_32 rfl hf (fun hf => ?_) (fun hf => ?_)
  · refine P_fgt [false, false, false, true, false, false] ?_
    cases hf
    exact k1 hW 
  · refine A_iconst d_133_35 ic_1 ?_
    refine P_iload d_133_36 rfl ?_
    refine P_ishl d_133_38 ?_
    refine A_istore d_133_39 ml_133 rfl rfl ?_
    refine P_iload_n d_133_41 rfl ?_
    refine P_iload d_133_42 rfl ?_
    refine P_iand d_133_44 ?_
    refine A_if_eq (tgt := 74) d_133_45 rfl hf (fun hf => ?_) (fun hf => ?_)
    · refine A_iinc d_133_74 ic_1 rfl ml_133 rfl rfl ?_
      refine P_goto (tgt := 23) d_133_77 rfl ?_
      refine P_fgt [true, true, true, true, true, false] ?_
      exact hrec _ _ _ hW  hf
    · refine P_aload_n d_133_48 rfl ?_
      refine A_gF d_133_49 cn_133 fk_CordLoft_67 ft_12_9 k_0 hW ?_
      refine P_aload_n d_133_52 rfl ?_
      refine A_gM d_133_53 cn_133 fk_CordLoft_35 k_0 hW hf (fun hk2 hf => ?_)
      refine P_iload_n d_133_56 rfl ?_
      refine P_iload d_133_57 rfl ?_
      refine A_iconst d_133_59 ic_m1 ?_
      refine P_ixor d_133_60 ?_
      refine P_iand d_133_61 ?_
      refine A_V2 d_133_62 vk_133_227 ml_130 rfl k_86 hW rfl hf (fun r3 M4 hc hf => t_Sets_reach hW hk2 hc (fun hW => ?_))
      refine P_iload_n d_133_65 rfl ?_
      refine A_icmp_ne (tgt := 74) d_133_66 rfl hf (fun hf => ?_) (fun hf => ?_)
      · refine A_iinc d_133_74 ic_1 rfl ml_133 rfl rfl ?_
        refine P_goto (tgt := 23) d_133_77 rfl ?_
        refine P_fgt [true, true, true, true, true, false] ?_
        exact hrec _ _ _ hW  hf
      · refine P_iload_n d_133_69 rfl ?_
        refine P_iload d_133_70 rfl ?_
        refine P_ior d_133_72 ?_
        refine A_istore_n d_133_73 ml_133 rfl rfl ?_
        refine A_iinc d_133_74 ic_1 rfl ml_133 rfl rfl ?_
        refine P_goto (tgt := 23) d_133_77 rfl ?_
        refine P_fgt [true, true, true, true, true, false] ?_
        exact hrec _ _ _ hW  hf
theorem t_C_spare_l23 {G : GT} {d : Nat} {v1 : Int32} {v2 : Int32} {Q : AM → Option Value → Prop} {yo : Int32} {Mo : AM} (k1 : WT Mo → PW G (d + 2) 133 80 [ux, ux, ux, .int yo, ux, ux] [] Mo 0 0 Q)  : ∀ (z : Nat) (v3 : Int32) (v4 : Int32) (M : AM), WT M → f_C_spare_l23 v1 v2 z v3 v4 M = some (yo, Mo) → PW G (d + 2) 133 23 [.ref 0, .int v1, .int v2, .int v3, .int v4, ux] [] M 0 0 Q := by
  intro z
  induction z with
  | zero => intro v3 v4 M hW hf; cases hf
  | succ z ih => intro v3 v4 M hW hf; exact t_C_spare_b23 (fun v3 v4 M hW hf => ih v3 v4 M hW hf) k1 hW   hf
def f_C_spare  (M : AM) : Option (Int32 × AM) :=
  bnd (f_C_freeCords  M) (fun r1 M2 => ckK (gR M2 0 3) 5 (bnd (f_Sets_reach (gR M2 0 3) r1 M2) (fun r4 M5 => bnd (f_C_spare_l23 r1 r4 fu 0 0 M5) (fun y6 M7 => some (y6, M7)))))
set_option maxRecDepth 20000 in
theorem t_C_spare {G : GT} {d : Nat}  {M : AM} {Q : AM → Option Value → Prop} {r : Int32} {M' : AM} (hW : WT M)  (hf : f_C_spare  M = some (r, M')) (k : WT M' → Q M' (some (.int r)))  : Cal G (d + 2) 133 [.ref 0] M Q := by
  refine A_enter ml_133 rfl ?_
  refine P_aload_n d_133_0 rfl ?_
  refine A_V0 d_133_1 vk_133_223 ml_129 rfl k_0 hW rfl hf (fun r1 M2 hc hf => t_C_freeCords hW  hc (fun hW => ?_))
  refine A_istore_n d_133_4 ml_133 rfl rfl ?_
  refine P_aload_n d_133_5 rfl ?_
  refine A_gF d_133_6 cn_133 fk_CordLoft_67 ft_12_9 k_0 hW ?_
  refine P_aload_n d_133_9 rfl ?_
  refine A_gM d_133_10 cn_133 fk_CordLoft_35 k_0 hW hf (fun hk3 hf => ?_)
  refine P_iload_n d_133_13 rfl ?_
  refine A_V2 d_133_14 vk_133_227 ml_130 rfl k_86 hW rfl hf (fun r4 M5 hc hf => t_Sets_reach hW hk3 hc (fun hW => ?_))
  refine A_istore_n d_133_17 ml_133 rfl rfl ?_
  refine A_iconst d_133_18 ic_0 ?_
  refine A_istore_n d_133_19 ml_133 rfl rfl ?_
  refine A_iconst d_133_20 ic_0 ?_
  refine A_istore d_133_21 ml_133 rfl rfl ?_
  obtain ⟨y6, M7, hl, hf⟩ := bnd_some hf
  refine t_C_spare_l23 (fun hW => ?_)  fu _ _ _ hW  hl
  refine P_iload_n d_133_80 rfl ?_
  exact A_iret d_133_81 mr_133 hW hf k
def f_Sets_brightestPicture_b9 (rec : Int32 → AM → Option (Unit × AM)) (v1 : Nat) (v2 : Nat) (v3 : Int32) (M : AM) : Option (Unit × AM) :=
  bnd (f_Plan_allCords v1 M) (fun r1 M2 => if r1 < v3 then some ((), M2) else if (v3 &&& (gI M2 v2 1)) = 0 then ald 256 M2 (v1 + 8) v3 (fun x3 => bnd (f_Int_bitCount ((gI M2 v2 0) ^^^ x3) M2) (fun r4 M5 => bnd (f_Best_offer (-r4) ((gI M2 v2 0) ^^^ x3) M5) (fun r6 M7 => rec (v3 + 1) M7))) else rec (v3 + 1) M2)
def f_Sets_brightestPicture_l9 (v1 : Nat) (v2 : Nat) : Nat → Int32 → AM → Option (Unit × AM)
  | 0, _, _ => none
  | n + 1, v3, M => f_Sets_brightestPicture_b9 (f_Sets_brightestPicture_l9 v1 v2 n) v1 v2 v3 M
set_option maxRecDepth 20000 in
theorem t_Sets_brightestPicture_b9 {G : GT} {d : Nat} {v1 : Nat} {v2 : Nat} {v3 : Int32} {M : AM} {Q : AM → Option Value → Prop} {yo : Unit} {Mo : AM} {rec : Int32 → AM → Option (Unit × AM)} (hrec : ∀ (v3 : Int32) (M : AM), WT M → rec v3 M = some (yo, Mo) → PW G (d + 1) 135 9 [.ref 86, .ref v1, .ref v2, .int v3, ux] [] M 0 0 Q) (k1 : WT Mo → PW G (d + 1) 135 60 [.ref 86, ux, ux, ux, ux] [] Mo 0 0 Q) (hW : WT M) (hv1 : kd0 v1 = 5) (hv2 : kd0 v2 = 9)  (hf : f_Sets_brightestPicture_b9 rec v1 v2 v3 M = some (yo, Mo)) : PW G (d + 1) 135 9 [.ref 86, .ref v1, .ref v2, .int v3, ux] [] M 0 0 Q := by
  refine P_iload_n d_135_9 rfl ?_
  refine P_aload_n d_135_10 rfl ?_
  refine A_V0 d_135_11 vk_135_33 ml_117 rfl hv1 hW rfl hf (fun r1 M2 hc hf => t_Plan_allCords hW hv1 hc (fun hW => ?_))
  refine A_icmp_gt (tgt := 60) d_135_14 rfl hf (fun hf => ?_) (fun hf => ?_)
  · refine P_fgt [true, false, false, false, false] ?_
    cases hf
    exact k1 hW 
  · refine P_iload_n d_135_17 rfl ?_
    refine P_aload_n d_135_18 rfl ?_
    refine A_gI d_135_19 cn_135 fk_CordLoft_Sets_37 hv2 hW ?_
    refine P_iand d_135_22 ?_
    refine A_if_ne (tgt := 54) d_135_23 rfl hf (fun hf => ?_) (fun hf => ?_)
    · refine A_iinc d_135_54 ic_1 rfl ml_135 rfl rfl ?_
      refine P_goto (tgt := 9) d_135_57 rfl ?_
      exact hrec _ _ hW  hf
    · refine P_aload_n d_135_26 rfl ?_
      refine A_gI d_135_27 cn_135 fk_CordLoft_Sets_43 hv2 hW ?_
      refine P_aload_n d_135_30 rfl ?_
      refine A_gFr d_135_31 cn_135 fk_CordLoft_Sets_46 ft_5_10 hv1 hW ?_
      refine P_iload_n d_135_34 rfl ?_
      refine A_iald d_135_35 (kr_5_8 hv1) (lr_5_8 hv1) hW hf (fun hf => ?_)
      refine P_ixor d_135_36 ?_
      refine A_istore d_135_37 ml_135 rfl rfl ?_
      refine P_aload_n d_135_39 rfl ?_
      refine A_gF d_135_40 cn_135 fk_CordLoft_Sets_12 ft_7_0 k_86 hW ?_
      refine P_iload d_135_43 rfl ?_
      refine A_S1 d_135_45 sk_135_52 ml_92 rfl rfl hf (fun r4 M5 hc hf => t_Int_bitCount hW  hc (fun hW => ?_))
      refine P_ineg d_135_48 ?_
      refine P_iload d_135_49 rfl ?_
      refine A_V2 d_135_51 vk_135_58 ml_121 rfl k_87 hW rfl hf (fun r6 M7 hc hf => t_Best_offer hW  hc (fun hW => ?_))
      refine A_iinc d_135_54 ic_1 rfl ml_135 rfl rfl ?_
      refine P_goto (tgt := 9) d_135_57 rfl ?_
      refine P_fgt [true, true, true, true, false] ?_
      exact hrec _ _ hW  hf
theorem t_Sets_brightestPicture_l9 {G : GT} {d : Nat} {v1 : Nat} {v2 : Nat} {Q : AM → Option Value → Prop} {yo : Unit} {Mo : AM} (k1 : WT Mo → PW G (d + 1) 135 60 [.ref 86, ux, ux, ux, ux] [] Mo 0 0 Q) (hv1 : kd0 v1 = 5) (hv2 : kd0 v2 = 9) : ∀ (z : Nat) (v3 : Int32) (M : AM), WT M → f_Sets_brightestPicture_l9 v1 v2 z v3 M = some (yo, Mo) → PW G (d + 1) 135 9 [.ref 86, .ref v1, .ref v2, .int v3, ux] [] M 0 0 Q := by
  intro z
  induction z with
  | zero => intro v3 M hW hf; cases hf
  | succ z ih => intro v3 M hW hf; exact t_Sets_brightestPicture_b9 (fun v3 M hW hf => ih v3 M hW hf) k1 hW hv1 hv2  hf
def f_Sets_brightestPicture (a1 : Nat) (a2 : Nat) (M : AM) : Option (Int32 × AM) :=
  bnd (f_Best_clear  M) (fun r1 M2 => bnd (f_Sets_brightestPicture_l9 a1 a2 fu 0 M2) (fun y3 M4 => some (gI M4 87 1, M4)))
set_option maxRecDepth 20000 in
theorem t_Sets_brightestPicture {G : GT} {d : Nat} {a1 : Nat} {a2 : Nat} {M : AM} {Q : AM → Option Value → Prop} {r : Int32} {M' : AM} (hW : WT M) (ha1 : kd0 a1 = 5) (ha2 : kd0 a2 = 9) (hf : f_Sets_brightestPicture a1 a2 M = some (r, M')) (k : WT M' → Q M' (some (.int r)))  : Cal G (d + 1) 135 [.ref 86, .ref a1, .ref a2] M Q := by
  refine A_enter ml_135 rfl ?_
  refine P_aload_n d_135_0 rfl ?_
  refine A_gF d_135_1 cn_135 fk_CordLoft_Sets_12 ft_7_0 k_86 hW ?_
  refine A_V0 d_135_4 vk_135_49 ml_120 rfl k_87 hW rfl hf (fun r1 M2 hc hf => t_Best_clear hW  hc (fun hW => ?_))
  refine A_iconst d_135_7 ic_0 ?_
  refine A_istore_n d_135_8 ml_135 rfl rfl ?_
  obtain ⟨y3, M4, hl, hf⟩ := bnd_some hf
  refine t_Sets_brightestPicture_l9 (fun hW => ?_) ha1 ha2 fu _ _ hW  hl
  refine P_aload_n d_135_60 rfl ?_
  refine A_gF d_135_61 cn_135 fk_CordLoft_Sets_12 ft_7_0 k_86 hW ?_
  refine A_gI d_135_64 cn_135 fk_CordLoft_Sets_62 k_87 hW ?_
  exact A_iret d_135_67 mr_135 hW hf k
def f_C_brightest (a1 : Int32) (M : AM) : Option (Int32 × AM) :=
  ckK (gR M 0 3) 5 (bnd (f_Acts_current  M) (fun r2 M3 => bnd (f_Sets_brightestPicture (gR M 0 3) r2 M3) (fun r4 M5 => bnd (f_Int_bitCount r4 M5) (fun r6 M7 => bnd (f_C_either a1 r6 r4 M7) (fun r8 M9 => some (r8, M9))))))
set_option maxRecDepth 20000 in
theorem t_C_brightest {G : GT} {d : Nat} {a1 : Int32} {M : AM} {Q : AM → Option Value → Prop} {r : Int32} {M' : AM} (hW : WT M)  (hf : f_C_brightest a1 M = some (r, M')) (k : WT M' → Q M' (some (.int r)))  : Cal G (d + 2) 134 [.ref 0, .int a1] M Q := by
  refine A_enter ml_134 rfl ?_
  refine P_aload_n d_134_0 rfl ?_
  refine A_gF d_134_1 cn_134 fk_CordLoft_67 ft_12_9 k_0 hW ?_
  refine P_aload_n d_134_4 rfl ?_
  refine A_gM d_134_5 cn_134 fk_CordLoft_35 k_0 hW hf (fun hk1 hf => ?_)
  refine P_aload_n d_134_8 rfl ?_
  refine A_gF d_134_9 cn_134 fk_CordLoft_45 ft_12_5 k_0 hW ?_
  refine A_V0 d_134_12 vk_134_114 ml_78 rfl k_38 hW rfl hf (fun r2 M3 hc hf => t_Acts_current hW  hc (fun hW hb3 => ?_))
  refine A_V2 d_134_15 vk_134_234 ml_135 rfl k_86 hW rfl hf (fun r4 M5 hc hf => t_Sets_brightestPicture hW hk1 hb3 hc (fun hW => ?_))
  refine A_istore_n d_134_18 ml_134 rfl rfl ?_
  refine P_iload_n d_134_19 rfl ?_
  refine P_iload_n d_134_20 rfl ?_
  refine A_S1 d_134_21 sk_134_167 ml_92 rfl rfl hf (fun r6 M7 hc hf => t_Int_bitCount hW  hc (fun hW => ?_))
  refine P_iload_n d_134_24 rfl ?_
  refine A_S3 d_134_25 sk_134_132 ml_84 rfl rfl hf (fun r8 M9 hc hf => t_C_either hW  hc (fun hW => ?_))
  exact A_iret d_134_28 mr_134 hW hf k
def f_Plan_wattsOf_b4 (rec : Int32 → Int32 → AM → Option (Int32 × AM)) (v0 : Nat) (v1 : Int32) (v2 : Int32) (v3 : Int32) (M : AM) : Option (Int32 × AM) :=
  if (gI M v0 0) ≤ v3 then some (v2, M) else ald 8 M (v0 + 2) v3 (fun x1 => rec (v2 + (((v1 >>> (v3 &&& 31)) &&& 1) * x1)) (v3 + 1) M)
def f_Plan_wattsOf_l4 (v0 : Nat) (v1 : Int32) : Nat → Int32 → Int32 → AM → Option (Int32 × AM)
  | 0, _, _, _ => none
  | n + 1, v2, v3, M => f_Plan_wattsOf_b4 (f_Plan_wattsOf_l4 v0 v1 n) v0 v1 v2 v3 M
set_option maxRecDepth 20000 in
theorem t_Plan_wattsOf_b4 {G : GT} {d : Nat} {v0 : Nat} {v1 : Int32} {v2 : Int32} {v3 : Int32} {M : AM} {Q : AM → Option Value → Prop} {yo : Int32} {Mo : AM} {rec : Int32 → Int32 → AM → Option (Int32 × AM)} (hrec : ∀ (v2 : Int32) (v3 : Int32) (M : AM), WT M → rec v2 v3 M = some (yo, Mo) → PW G d 138 4 [.ref v0, .int v1, .int v2, .int v3] [] M 0 0 Q) (k1 : WT Mo → PW G d 138 33 [ux, ux, .int yo, ux] [] Mo 0 0 Q) (hW : WT M) (hv0 : kd0 v0 = 5)  (hf : f_Plan_wattsOf_b4 rec v0 v1 v2 v3 M = some (yo, Mo)) : PW G d 138 4 [.ref v0, .int v1, .int v2, .int v3] [] M 0 0 Q := by
  refine P_iload_n d_138_4 rfl ?_
  refine P_aload_n d_138_5 rfl ?_
  refine A_gI d_138_6 cn_138 fk_CordLoft_Plan_51 hv0 hW ?_
  refine A_icmp_ge (tgt := 33) d_138_9 rfl hf (fun hf => ?_) (fun hf => ?_)
  · refine P_fgt [false, false, true, false] ?_
    cases hf
    exact k1 hW 
  · refine P_iload_n d_138_12 rfl ?_
    refine P_iload_n d_138_13 rfl ?_
    refine P_iload_n d_138_14 rfl ?_
    refine P_ishr d_138_15 ?_
    refine A_iconst d_138_16 ic_1 ?_
    refine P_iand d_138_17 ?_
    refine P_aload_n d_138_18 rfl ?_
    refine A_gFr d_138_19 cn_138 fk_CordLoft_Plan_15 ft_5_3 hv0 hW ?_
    refine P_iload_n d_138_22 rfl ?_
    refine A_iald d_138_23 (kr_5_2 hv0) (lr_5_2 hv0) hW hf (fun hf => ?_)
    refine P_imul d_138_24 ?_
    refine P_iadd d_138_25 ?_
    refine A_istore_n d_138_26 ml_138 rfl rfl ?_
    refine A_iinc d_138_27 ic_1 rfl ml_138 rfl rfl ?_
    refine P_goto (tgt := 4) d_138_30 rfl ?_
    exact hrec _ _ _ hW  hf
theorem t_Plan_wattsOf_l4 {G : GT} {d : Nat} {v0 : Nat} {v1 : Int32} {Q : AM → Option Value → Prop} {yo : Int32} {Mo : AM} (k1 : WT Mo → PW G d 138 33 [ux, ux, .int yo, ux] [] Mo 0 0 Q) (hv0 : kd0 v0 = 5) : ∀ (z : Nat) (v2 : Int32) (v3 : Int32) (M : AM), WT M → f_Plan_wattsOf_l4 v0 v1 z v2 v3 M = some (yo, Mo) → PW G d 138 4 [.ref v0, .int v1, .int v2, .int v3] [] M 0 0 Q := by
  intro z
  induction z with
  | zero => intro v2 v3 M hW hf; cases hf
  | succ z ih => intro v2 v3 M hW hf; exact t_Plan_wattsOf_b4 (fun v2 v3 M hW hf => ih v2 v3 M hW hf) k1 hW hv0  hf
def f_Plan_wattsOf (a0 : Nat) (a1 : Int32) (M : AM) : Option (Int32 × AM) :=
  bnd (f_Plan_wattsOf_l4 a0 a1 fu 0 0 M) (fun y1 M2 => some (y1, M2))
set_option maxRecDepth 20000 in
theorem t_Plan_wattsOf {G : GT} {d : Nat} {a0 : Nat} {a1 : Int32} {M : AM} {Q : AM → Option Value → Prop} {r : Int32} {M' : AM} (hW : WT M) (ha0 : kd0 a0 = 5) (hf : f_Plan_wattsOf a0 a1 M = some (r, M')) (k : WT M' → Q M' (some (.int r)))  : Cal G d 138 [.ref a0, .int a1] M Q := by
  refine A_enter ml_138 rfl ?_
  refine A_iconst d_138_0 ic_0 ?_
  refine A_istore_n d_138_1 ml_138 rfl rfl ?_
  refine A_iconst d_138_2 ic_0 ?_
  refine A_istore_n d_138_3 ml_138 rfl rfl ?_
  obtain ⟨y1, M2, hl, hf⟩ := bnd_some hf
  refine t_Plan_wattsOf_l4 (fun hW => ?_) ha0 fu _ _ _ hW  hl
  refine P_iload_n d_138_33 rfl ?_
  exact A_iret d_138_34 mr_138 hW hf k
def f_Sets_dimmestPicture_b9 (rec : Int32 → AM → Option (Unit × AM)) (v1 : Nat) (v2 : Nat) (v3 : Int32) (M : AM) : Option (Unit × AM) :=
  bnd (f_Plan_allCords v1 M) (fun r1 M2 => if r1 < v3 then some ((), M2) else if (v3 &&& (gI M2 v2 1)) = 0 then ald 256 M2 (v1 + 8) v3 (fun x3 => bnd (f_Plan_wattsOf v1 ((gI M2 v2 0) ^^^ x3) M2) (fun r4 M5 => bnd (f_Best_offer r4 ((gI M2 v2 0) ^^^ x3) M5) (fun r6 M7 => rec (v3 + 1) M7))) else rec (v3 + 1) M2)
def f_Sets_dimmestPicture_l9 (v1 : Nat) (v2 : Nat) : Nat → Int32 → AM → Option (Unit × AM)
  | 0, _, _ => none
  | n + 1, v3, M => f_Sets_dimmestPicture_b9 (f_Sets_dimmestPicture_l9 v1 v2 n) v1 v2 v3 M
set_option maxRecDepth 20000 in
theorem t_Sets_dimmestPicture_b9 {G : GT} {d : Nat} {v1 : Nat} {v2 : Nat} {v3 : Int32} {M : AM} {Q : AM → Option Value → Prop} {yo : Unit} {Mo : AM} {rec : Int32 → AM → Option (Unit × AM)} (hrec : ∀ (v3 : Int32) (M : AM), WT M → rec v3 M = some (yo, Mo) → PW G (d + 1) 137 9 [.ref 86, .ref v1, .ref v2, .int v3, ux] [] M 0 0 Q) (k1 : WT Mo → PW G (d + 1) 137 60 [.ref 86, ux, ux, ux, ux] [] Mo 0 0 Q) (hW : WT M) (hv1 : kd0 v1 = 5) (hv2 : kd0 v2 = 9)  (hf : f_Sets_dimmestPicture_b9 rec v1 v2 v3 M = some (yo, Mo)) : PW G (d + 1) 137 9 [.ref 86, .ref v1, .ref v2, .int v3, ux] [] M 0 0 Q := by
  refine P_iload_n d_137_9 rfl ?_
  refine P_aload_n d_137_10 rfl ?_
  refine A_V0 d_137_11 vk_137_33 ml_117 rfl hv1 hW rfl hf (fun r1 M2 hc hf => t_Plan_allCords hW hv1 hc (fun hW => ?_))
  refine A_icmp_gt (tgt := 60) d_137_14 rfl hf (fun hf => ?_) (fun hf => ?_)
  · refine P_fgt [true, false, false, false, false] ?_
    cases hf
    exact k1 hW 
  · refine P_iload_n d_137_17 rfl ?_
    refine P_aload_n d_137_18 rfl ?_
    refine A_gI d_137_19 cn_137 fk_CordLoft_Sets_37 hv2 hW ?_
    refine P_iand d_137_22 ?_
    refine A_if_ne (tgt := 54) d_137_23 rfl hf (fun hf => ?_) (fun hf => ?_)
    · refine A_iinc d_137_54 ic_1 rfl ml_137 rfl rfl ?_
      refine P_goto (tgt := 9) d_137_57 rfl ?_
      exact hrec _ _ hW  hf
    · refine P_aload_n d_137_26 rfl ?_
      refine A_gI d_137_27 cn_137 fk_CordLoft_Sets_43 hv2 hW ?_
      refine P_aload_n d_137_30 rfl ?_
      refine A_gFr d_137_31 cn_137 fk_CordLoft_Sets_46 ft_5_10 hv1 hW ?_
      refine P_iload_n d_137_34 rfl ?_
      refine A_iald d_137_35 (kr_5_8 hv1) (lr_5_8 hv1) hW hf (fun hf => ?_)
      refine P_ixor d_137_36 ?_
      refine A_istore d_137_37 ml_137 rfl rfl ?_
      refine P_aload_n d_137_39 rfl ?_
      refine A_gF d_137_40 cn_137 fk_CordLoft_Sets_12 ft_7_0 k_86 hW ?_
      refine P_aload_n d_137_43 rfl ?_
      refine P_iload d_137_44 rfl ?_
      refine A_V1 d_137_46 vk_137_68 ml_138 rfl hv1 hW rfl hf (fun r4 M5 hc hf => t_Plan_wattsOf hW hv1 hc (fun hW => ?_))
      refine P_iload d_137_49 rfl ?_
      refine A_V2 d_137_51 vk_137_58 ml_121 rfl k_87 hW rfl hf (fun r6 M7 hc hf => t_Best_offer hW  hc (fun hW => ?_))
      refine A_iinc d_137_54 ic_1 rfl ml_137 rfl rfl ?_
      refine P_goto (tgt := 9) d_137_57 rfl ?_
      refine P_fgt [true, true, true, true, false] ?_
      exact hrec _ _ hW  hf
theorem t_Sets_dimmestPicture_l9 {G : GT} {d : Nat} {v1 : Nat} {v2 : Nat} {Q : AM → Option Value → Prop} {yo : Unit} {Mo : AM} (k1 : WT Mo → PW G (d + 1) 137 60 [.ref 86, ux, ux, ux, ux] [] Mo 0 0 Q) (hv1 : kd0 v1 = 5) (hv2 : kd0 v2 = 9) : ∀ (z : Nat) (v3 : Int32) (M : AM), WT M → f_Sets_dimmestPicture_l9 v1 v2 z v3 M = some (yo, Mo) → PW G (d + 1) 137 9 [.ref 86, .ref v1, .ref v2, .int v3, ux] [] M 0 0 Q := by
  intro z
  induction z with
  | zero => intro v3 M hW hf; cases hf
  | succ z ih => intro v3 M hW hf; exact t_Sets_dimmestPicture_b9 (fun v3 M hW hf => ih v3 M hW hf) k1 hW hv1 hv2  hf
def f_Sets_dimmestPicture (a1 : Nat) (a2 : Nat) (M : AM) : Option (Int32 × AM) :=
  bnd (f_Best_clear  M) (fun r1 M2 => bnd (f_Sets_dimmestPicture_l9 a1 a2 fu 0 M2) (fun y3 M4 => some (gI M4 87 1, M4)))
set_option maxRecDepth 20000 in
theorem t_Sets_dimmestPicture {G : GT} {d : Nat} {a1 : Nat} {a2 : Nat} {M : AM} {Q : AM → Option Value → Prop} {r : Int32} {M' : AM} (hW : WT M) (ha1 : kd0 a1 = 5) (ha2 : kd0 a2 = 9) (hf : f_Sets_dimmestPicture a1 a2 M = some (r, M')) (k : WT M' → Q M' (some (.int r)))  : Cal G (d + 1) 137 [.ref 86, .ref a1, .ref a2] M Q := by
  refine A_enter ml_137 rfl ?_
  refine P_aload_n d_137_0 rfl ?_
  refine A_gF d_137_1 cn_137 fk_CordLoft_Sets_12 ft_7_0 k_86 hW ?_
  refine A_V0 d_137_4 vk_137_49 ml_120 rfl k_87 hW rfl hf (fun r1 M2 hc hf => t_Best_clear hW  hc (fun hW => ?_))
  refine A_iconst d_137_7 ic_0 ?_
  refine A_istore_n d_137_8 ml_137 rfl rfl ?_
  obtain ⟨y3, M4, hl, hf⟩ := bnd_some hf
  refine t_Sets_dimmestPicture_l9 (fun hW => ?_) ha1 ha2 fu _ _ hW  hl
  refine P_aload_n d_137_60 rfl ?_
  refine A_gF d_137_61 cn_137 fk_CordLoft_Sets_12 ft_7_0 k_86 hW ?_
  refine A_gI d_137_64 cn_137 fk_CordLoft_Sets_62 k_87 hW ?_
  exact A_iret d_137_67 mr_137 hW hf k
def f_C_dimmest (a1 : Int32) (M : AM) : Option (Int32 × AM) :=
  ckK (gR M 0 3) 5 (bnd (f_Acts_current  M) (fun r2 M3 => bnd (f_Sets_dimmestPicture (gR M 0 3) r2 M3) (fun r4 M5 => ckK (gR M5 0 3) 5 (bnd (f_Plan_wattsOf (gR M5 0 3) r4 M5) (fun r7 M8 => bnd (f_C_either a1 r7 r4 M8) (fun r9 M10 => some (r9, M10)))))))
set_option maxRecDepth 20000 in
theorem t_C_dimmest {G : GT} {d : Nat} {a1 : Int32} {M : AM} {Q : AM → Option Value → Prop} {r : Int32} {M' : AM} (hW : WT M)  (hf : f_C_dimmest a1 M = some (r, M')) (k : WT M' → Q M' (some (.int r)))  : Cal G (d + 2) 136 [.ref 0, .int a1] M Q := by
  refine A_enter ml_136 rfl ?_
  refine P_aload_n d_136_0 rfl ?_
  refine A_gF d_136_1 cn_136 fk_CordLoft_67 ft_12_9 k_0 hW ?_
  refine P_aload_n d_136_4 rfl ?_
  refine A_gM d_136_5 cn_136 fk_CordLoft_35 k_0 hW hf (fun hk1 hf => ?_)
  refine P_aload_n d_136_8 rfl ?_
  refine A_gF d_136_9 cn_136 fk_CordLoft_45 ft_12_5 k_0 hW ?_
  refine A_V0 d_136_12 vk_136_114 ml_78 rfl k_38 hW rfl hf (fun r2 M3 hc hf => t_Acts_current hW  hc (fun hW hb3 => ?_))
  refine A_V2 d_136_15 vk_136_237 ml_137 rfl k_86 hW rfl hf (fun r4 M5 hc hf => t_Sets_dimmestPicture hW hk1 hb3 hc (fun hW => ?_))
  refine A_istore_n d_136_18 ml_136 rfl rfl ?_
  refine P_iload_n d_136_19 rfl ?_
  refine P_aload_n d_136_20 rfl ?_
  refine A_gM d_136_21 cn_136 fk_CordLoft_35 k_0 hW hf (fun hk6 hf => ?_)
  refine P_iload_n d_136_24 rfl ?_
  refine A_V1 d_136_25 vk_136_240 ml_138 rfl hk6 hW rfl hf (fun r7 M8 hc hf => t_Plan_wattsOf hW hk6 hc (fun hW => ?_))
  refine P_iload_n d_136_28 rfl ?_
  refine A_S3 d_136_29 sk_136_132 ml_84 rfl rfl hf (fun r9 M10 hc hf => t_C_either hW  hc (fun hW => ?_))
  exact A_iret d_136_32 mr_136 hW hf k
def f_Sets_nearestPicture_b10 (rec : Int32 → AM → Option (Unit × AM)) (v1 : Nat) (v2 : Nat) (v3 : Int32) (v4 : Int32) (M : AM) : Option (Unit × AM) :=
  bnd (f_Plan_allCords v1 M) (fun r1 M2 => if r1 < v4 then some ((), M2) else if (v4 &&& (gI M2 v2 1)) = 0 then ald 256 M2 (v1 + 8) v4 (fun x3 => bnd (f_Int_bitCount (((gI M2 v2 0) ^^^ x3) ^^^ v3) M2) (fun r4 M5 => bnd (f_Best_offer r4 ((gI M2 v2 0) ^^^ x3) M5) (fun r6 M7 => rec (v4 + 1) M7))) else rec (v4 + 1) M2)
def f_Sets_nearestPicture_l10 (v1 : Nat) (v2 : Nat) (v3 : Int32) : Nat → Int32 → AM → Option (Unit × AM)
  | 0, _, _ => none
  | n + 1, v4, M => f_Sets_nearestPicture_b10 (f_Sets_nearestPicture_l10 v1 v2 v3 n) v1 v2 v3 v4 M
set_option maxRecDepth 20000 in
theorem t_Sets_nearestPicture_b10 {G : GT} {d : Nat} {v1 : Nat} {v2 : Nat} {v3 : Int32} {v4 : Int32} {M : AM} {Q : AM → Option Value → Prop} {yo : Unit} {Mo : AM} {rec : Int32 → AM → Option (Unit × AM)} (hrec : ∀ (v4 : Int32) (M : AM), WT M → rec v4 M = some (yo, Mo) → PW G (d + 1) 140 10 [.ref 86, .ref v1, .ref v2, .int v3, .int v4, ux] [] M 0 0 Q) (k1 : WT Mo → PW G (d + 1) 140 65 [.ref 86, ux, ux, ux, ux, ux] [] Mo 0 0 Q) (hW : WT M) (hv1 : kd0 v1 = 5) (hv2 : kd0 v2 = 9)  (hf : f_Sets_nearestPicture_b10 rec v1 v2 v3 v4 M = some (yo, Mo)) : PW G (d + 1) 140 10 [.ref 86, .ref v1, .ref v2, .int v3, .int v4, ux] [] M 0 0 Q := by
  refine P_iload d_140_10 rfl ?_
  refine P_aload_n d_140_12 rfl ?_
  refine A_V0 d_140_13 vk_140_33 ml_117 rfl hv1 hW rfl hf (fun r1 M2 hc hf => t_Plan_allCords hW hv1 hc (fun hW => ?_))
  refine A_icmp_gt (tgt := 65) d_140_16 rfl hf (fun hf => ?_) (fun hf => ?_)
  · refine P_fgt [true, false, false, false, false, false] ?_
    cases hf
    exact k1 hW 
  · refine P_iload d_140_19 rfl ?_
    refine P_aload_n d_140_21 rfl ?_
    refine A_gI d_140_22 cn_140 fk_CordLoft_Sets_37 hv2 hW ?_
    refine P_iand d_140_25 ?_
    refine A_if_ne (tgt := 59) d_140_26 rfl hf (fun hf => ?_) (fun hf => ?_)
    · refine A_iinc d_140_59 ic_1 rfl ml_140 rfl rfl ?_
      refine P_goto (tgt := 10) d_140_62 rfl ?_
      exact hrec _ _ hW  hf
    · refine P_aload_n d_140_29 rfl ?_
      refine A_gI d_140_30 cn_140 fk_CordLoft_Sets_43 hv2 hW ?_
      refine P_aload_n d_140_33 rfl ?_
      refine A_gFr d_140_34 cn_140 fk_CordLoft_Sets_46 ft_5_10 hv1 hW ?_
      refine P_iload d_140_37 rfl ?_
      refine A_iald d_140_39 (kr_5_8 hv1) (lr_5_8 hv1) hW hf (fun hf => ?_)
      refine P_ixor d_140_40 ?_
      refine A_istore d_140_41 ml_140 rfl rfl ?_
      refine P_aload_n d_140_43 rfl ?_
      refine A_gF d_140_44 cn_140 fk_CordLoft_Sets_12 ft_7_0 k_86 hW ?_
      refine P_iload d_140_47 rfl ?_
      refine P_iload_n d_140_49 rfl ?_
      refine P_ixor d_140_50 ?_
      refine A_S1 d_140_51 sk_140_52 ml_92 rfl rfl hf (fun r4 M5 hc hf => t_Int_bitCount hW  hc (fun hW => ?_))
      refine P_iload d_140_54 rfl ?_
      refine A_V2 d_140_56 vk_140_58 ml_121 rfl k_87 hW rfl hf (fun r6 M7 hc hf => t_Best_offer hW  hc (fun hW => ?_))
      refine A_iinc d_140_59 ic_1 rfl ml_140 rfl rfl ?_
      refine P_goto (tgt := 10) d_140_62 rfl ?_
      refine P_fgt [true, true, true, true, true, false] ?_
      exact hrec _ _ hW  hf
theorem t_Sets_nearestPicture_l10 {G : GT} {d : Nat} {v1 : Nat} {v2 : Nat} {v3 : Int32} {Q : AM → Option Value → Prop} {yo : Unit} {Mo : AM} (k1 : WT Mo → PW G (d + 1) 140 65 [.ref 86, ux, ux, ux, ux, ux] [] Mo 0 0 Q) (hv1 : kd0 v1 = 5) (hv2 : kd0 v2 = 9) : ∀ (z : Nat) (v4 : Int32) (M : AM), WT M → f_Sets_nearestPicture_l10 v1 v2 v3 z v4 M = some (yo, Mo) → PW G (d + 1) 140 10 [.ref 86, .ref v1, .ref v2, .int v3, .int v4, ux] [] M 0 0 Q := by
  intro z
  induction z with
  | zero => intro v4 M hW hf; cases hf
  | succ z ih => intro v4 M hW hf; exact t_Sets_nearestPicture_b10 (fun v4 M hW hf => ih v4 M hW hf) k1 hW hv1 hv2  hf
def f_Sets_nearestPicture (a1 : Nat) (a2 : Nat) (a3 : Int32) (M : AM) : Option (Int32 × AM) :=
  bnd (f_Best_clear  M) (fun r1 M2 => bnd (f_Sets_nearestPicture_l10 a1 a2 a3 fu 0 M2) (fun y3 M4 => some (gI M4 87 1, M4)))
set_option maxRecDepth 20000 in
theorem t_Sets_nearestPicture {G : GT} {d : Nat} {a1 : Nat} {a2 : Nat} {a3 : Int32} {M : AM} {Q : AM → Option Value → Prop} {r : Int32} {M' : AM} (hW : WT M) (ha1 : kd0 a1 = 5) (ha2 : kd0 a2 = 9) (hf : f_Sets_nearestPicture a1 a2 a3 M = some (r, M')) (k : WT M' → Q M' (some (.int r)))  : Cal G (d + 1) 140 [.ref 86, .ref a1, .ref a2, .int a3] M Q := by
  refine A_enter ml_140 rfl ?_
  refine P_aload_n d_140_0 rfl ?_
  refine A_gF d_140_1 cn_140 fk_CordLoft_Sets_12 ft_7_0 k_86 hW ?_
  refine A_V0 d_140_4 vk_140_49 ml_120 rfl k_87 hW rfl hf (fun r1 M2 hc hf => t_Best_clear hW  hc (fun hW => ?_))
  refine A_iconst d_140_7 ic_0 ?_
  refine A_istore d_140_8 ml_140 rfl rfl ?_
  obtain ⟨y3, M4, hl, hf⟩ := bnd_some hf
  refine t_Sets_nearestPicture_l10 (fun hW => ?_) ha1 ha2 fu _ _ hW  hl
  refine P_aload_n d_140_65 rfl ?_
  refine A_gF d_140_66 cn_140 fk_CordLoft_Sets_12 ft_7_0 k_86 hW ?_
  refine A_gI d_140_69 cn_140 fk_CordLoft_Sets_62 k_87 hW ?_
  exact A_iret d_140_72 mr_140 hW hf k
def f_C_nearest (a1 : Int32) (a2 : Int32) (M : AM) : Option (Int32 × AM) :=
  ckK (gR M 0 3) 5 (bnd (f_Plan_hasPicture (gR M 0 3) a1 M) (fun r2 M3 => if r2 = 0 then some ((-1), M3) else ckK (gR M3 0 3) 5 (bnd (f_Acts_current  M3) (fun r5 M6 => bnd (f_Sets_nearestPicture (gR M3 0 3) r5 a1 M6) (fun r7 M8 => bnd (f_Int_bitCount (r7 ^^^ a1) M8) (fun r9 M10 => bnd (f_C_either a2 r9 r7 M10) (fun r11 M12 => some (r11, M12))))))))
set_option maxRecDepth 20000 in
theorem t_C_nearest {G : GT} {d : Nat} {a1 : Int32} {a2 : Int32} {M : AM} {Q : AM → Option Value → Prop} {r : Int32} {M' : AM} (hW : WT M)  (hf : f_C_nearest a1 a2 M = some (r, M')) (k : WT M' → Q M' (some (.int r)))  : Cal G (d + 2) 139 [.ref 0, .int a1, .int a2] M Q := by
  refine A_enter ml_139 rfl ?_
  refine P_aload_n d_139_0 rfl ?_
  refine A_gM d_139_1 cn_139 fk_CordLoft_35 k_0 hW hf (fun hk1 hf => ?_)
  refine P_iload_n d_139_4 rfl ?_
  refine A_V1 d_139_5 vk_139_203 ml_114 rfl hk1 hW rfl hf (fun r2 M3 hc hf => t_Plan_hasPicture hW hk1 hc (fun hW hb3 => ?_))
  refine A_if_ne (tgt := 13) d_139_8 rfl hf (fun hf => ?_) (fun hf => ?_)
  · refine P_aload_n d_139_13 rfl ?_
    refine A_gF d_139_14 cn_139 fk_CordLoft_67 ft_12_9 k_0 hW ?_
    refine P_aload_n d_139_17 rfl ?_
    refine A_gM d_139_18 cn_139 fk_CordLoft_35 k_0 hW hf (fun hk4 hf => ?_)
    refine P_aload_n d_139_21 rfl ?_
    refine A_gF d_139_22 cn_139 fk_CordLoft_45 ft_12_5 k_0 hW ?_
    refine A_V0 d_139_25 vk_139_114 ml_78 rfl k_38 hW rfl hf (fun r5 M6 hc hf => t_Acts_current hW  hc (fun hW hb6 => ?_))
    refine P_iload_n d_139_28 rfl ?_
    refine A_V3 d_139_29 vk_139_243 ml_140 rfl k_86 hW rfl hf (fun r7 M8 hc hf => t_Sets_nearestPicture hW hk4 hb6 hc (fun hW => ?_))
    refine A_istore_n d_139_32 ml_139 rfl rfl ?_
    refine P_iload_n d_139_33 rfl ?_
    refine P_iload_n d_139_34 rfl ?_
    refine P_iload_n d_139_35 rfl ?_
    refine P_ixor d_139_36 ?_
    refine A_S1 d_139_37 sk_139_167 ml_92 rfl rfl hf (fun r9 M10 hc hf => t_Int_bitCount hW  hc (fun hW => ?_))
    refine P_iload_n d_139_40 rfl ?_
    refine A_S3 d_139_41 sk_139_132 ml_84 rfl rfl hf (fun r11 M12 hc hf => t_C_either hW  hc (fun hW => ?_))
    exact A_iret d_139_44 mr_139 hW hf k
  · refine A_iconst d_139_11 ic_m1 ?_
    exact A_iret d_139_12 mr_139 hW hf k
def f_Sets_leastDifference_b9 (rec : Int32 → AM → Option (Unit × AM)) (v1 : Nat) (v2 : Nat) (v3 : Int32) (M : AM) : Option (Unit × AM) :=
  bnd (f_Plan_allCords v1 M) (fun r1 M2 => if r1 < v3 then some ((), M2) else ald 256 M2 (v1 + 8) v3 (fun x3 => if (v3 &&& (gI M2 v2 1)) = 0 then if x3 = 0 then rec (v3 + 1) M2 else bnd (f_Int_bitCount x3 M2) (fun r4 M5 => bnd (f_Best_offer r4 x3 M5) (fun r6 M7 => rec (v3 + 1) M7)) else rec (v3 + 1) M2))
def f_Sets_leastDifference_l9 (v1 : Nat) (v2 : Nat) : Nat → Int32 → AM → Option (Unit × AM)
  | 0, _, _ => none
  | n + 1, v3, M => f_Sets_leastDifference_b9 (f_Sets_leastDifference_l9 v1 v2 n) v1 v2 v3 M
set_option maxRecDepth 20000 in
theorem t_Sets_leastDifference_b9 {G : GT} {d : Nat} {v1 : Nat} {v2 : Nat} {v3 : Int32} {M : AM} {Q : AM → Option Value → Prop} {yo : Unit} {Mo : AM} {rec : Int32 → AM → Option (Unit × AM)} (hrec : ∀ (v3 : Int32) (M : AM), WT M → rec v3 M = some (yo, Mo) → PW G (d + 1) 142 9 [.ref 86, .ref v1, .ref v2, .int v3, ux] [] M 0 0 Q) (k1 : WT Mo → PW G (d + 1) 142 59 [.ref 86, ux, ux, ux, ux] [] Mo 0 0 Q) (hW : WT M) (hv1 : kd0 v1 = 5) (hv2 : kd0 v2 = 9)  (hf : f_Sets_leastDifference_b9 rec v1 v2 v3 M = some (yo, Mo)) : PW G (d + 1) 142 9 [.ref 86, .ref v1, .ref v2, .int v3, ux] [] M 0 0 Q := by
  refine P_iload_n d_142_9 rfl ?_
  refine P_aload_n d_142_10 rfl ?_
  refine A_V0 d_142_11 vk_142_33 ml_117 rfl hv1 hW rfl hf (fun r1 M2 hc hf => t_Plan_allCords hW hv1 hc (fun hW => ?_))
  refine A_icmp_gt (tgt := 59) d_142_14 rfl hf (fun hf => ?_) (fun hf => ?_)
  · refine P_fgt [true, false, false, false, false] ?_
    cases hf
    exact k1 hW 
  · refine P_aload_n d_142_17 rfl ?_
    refine A_gFr d_142_18 cn_142 fk_CordLoft_Sets_46 ft_5_10 hv1 hW ?_
    refine P_iload_n d_142_21 rfl ?_
    refine A_iald d_142_22 (kr_5_8 hv1) (lr_5_8 hv1) hW hf (fun hf => ?_)
    refine A_istore d_142_23 ml_142 rfl rfl ?_
    refine P_iload_n d_142_25 rfl ?_
    refine P_aload_n d_142_26 rfl ?_
    refine A_gI d_142_27 cn_142 fk_CordLoft_Sets_37 hv2 hW ?_
    refine P_iand d_142_30 ?_
    refine A_if_ne (tgt := 53) d_142_31 rfl hf (fun hf => ?_) (fun hf => ?_)
    · refine A_iinc d_142_53 ic_1 rfl ml_142 rfl rfl ?_
      refine P_goto (tgt := 9) d_142_56 rfl ?_
      refine P_fgt [true, true, true, true, false] ?_
      exact hrec _ _ hW  hf
    · refine P_iload d_142_34 rfl ?_
      refine A_if_eq (tgt := 53) d_142_36 rfl hf (fun hf => ?_) (fun hf => ?_)
      · refine A_iinc d_142_53 ic_1 rfl ml_142 rfl rfl ?_
        refine P_goto (tgt := 9) d_142_56 rfl ?_
        refine P_fgt [true, true, true, true, false] ?_
        exact hrec _ _ hW  hf
      · refine P_aload_n d_142_39 rfl ?_
        refine A_gF d_142_40 cn_142 fk_CordLoft_Sets_12 ft_7_0 k_86 hW ?_
        refine P_iload d_142_43 rfl ?_
        refine A_S1 d_142_45 sk_142_52 ml_92 rfl rfl hf (fun r4 M5 hc hf => t_Int_bitCount hW  hc (fun hW => ?_))
        refine P_iload d_142_48 rfl ?_
        refine A_V2 d_142_50 vk_142_58 ml_121 rfl k_87 hW rfl hf (fun r6 M7 hc hf => t_Best_offer hW  hc (fun hW => ?_))
        refine A_iinc d_142_53 ic_1 rfl ml_142 rfl rfl ?_
        refine P_goto (tgt := 9) d_142_56 rfl ?_
        refine P_fgt [true, true, true, true, false] ?_
        exact hrec _ _ hW  hf
theorem t_Sets_leastDifference_l9 {G : GT} {d : Nat} {v1 : Nat} {v2 : Nat} {Q : AM → Option Value → Prop} {yo : Unit} {Mo : AM} (k1 : WT Mo → PW G (d + 1) 142 59 [.ref 86, ux, ux, ux, ux] [] Mo 0 0 Q) (hv1 : kd0 v1 = 5) (hv2 : kd0 v2 = 9) : ∀ (z : Nat) (v3 : Int32) (M : AM), WT M → f_Sets_leastDifference_l9 v1 v2 z v3 M = some (yo, Mo) → PW G (d + 1) 142 9 [.ref 86, .ref v1, .ref v2, .int v3, ux] [] M 0 0 Q := by
  intro z
  induction z with
  | zero => intro v3 M hW hf; cases hf
  | succ z ih => intro v3 M hW hf; exact t_Sets_leastDifference_b9 (fun v3 M hW hf => ih v3 M hW hf) k1 hW hv1 hv2  hf
def f_Sets_leastDifference (a1 : Nat) (a2 : Nat) (M : AM) : Option (Int32 × AM) :=
  bnd (f_Best_clear  M) (fun r1 M2 => bnd (f_Sets_leastDifference_l9 a1 a2 fu 1 M2) (fun y3 M4 => some (gI M4 87 1, M4)))
set_option maxRecDepth 20000 in
theorem t_Sets_leastDifference {G : GT} {d : Nat} {a1 : Nat} {a2 : Nat} {M : AM} {Q : AM → Option Value → Prop} {r : Int32} {M' : AM} (hW : WT M) (ha1 : kd0 a1 = 5) (ha2 : kd0 a2 = 9) (hf : f_Sets_leastDifference a1 a2 M = some (r, M')) (k : WT M' → Q M' (some (.int r)))  : Cal G (d + 1) 142 [.ref 86, .ref a1, .ref a2] M Q := by
  refine A_enter ml_142 rfl ?_
  refine P_aload_n d_142_0 rfl ?_
  refine A_gF d_142_1 cn_142 fk_CordLoft_Sets_12 ft_7_0 k_86 hW ?_
  refine A_V0 d_142_4 vk_142_49 ml_120 rfl k_87 hW rfl hf (fun r1 M2 hc hf => t_Best_clear hW  hc (fun hW => ?_))
  refine A_iconst d_142_7 ic_1 ?_
  refine A_istore_n d_142_8 ml_142 rfl rfl ?_
  obtain ⟨y3, M4, hl, hf⟩ := bnd_some hf
  refine t_Sets_leastDifference_l9 (fun hW => ?_) ha1 ha2 fu _ _ hW  hl
  refine P_aload_n d_142_59 rfl ?_
  refine A_gF d_142_60 cn_142 fk_CordLoft_Sets_12 ft_7_0 k_86 hW ?_
  refine A_gI d_142_63 cn_142 fk_CordLoft_Sets_62 k_87 hW ?_
  exact A_iret d_142_66 mr_142 hW hf k
def f_C_apart (a1 : Int32) (M : AM) : Option (Int32 × AM) :=
  ckK (gR M 0 3) 5 (bnd (f_Acts_current  M) (fun r2 M3 => bnd (f_Sets_leastDifference (gR M 0 3) r2 M3) (fun r4 M5 => if 0 ≤ r4 then bnd (f_Int_bitCount r4 M5) (fun r6 M7 => bnd (f_C_either a1 r6 r4 M7) (fun r8 M9 => some (r8, M9))) else some ((-1), M5))))
set_option maxRecDepth 20000 in
theorem t_C_apart {G : GT} {d : Nat} {a1 : Int32} {M : AM} {Q : AM → Option Value → Prop} {r : Int32} {M' : AM} (hW : WT M)  (hf : f_C_apart a1 M = some (r, M')) (k : WT M' → Q M' (some (.int r)))  : Cal G (d + 2) 141 [.ref 0, .int a1] M Q := by
  refine A_enter ml_141 rfl ?_
  refine P_aload_n d_141_0 rfl ?_
  refine A_gF d_141_1 cn_141 fk_CordLoft_67 ft_12_9 k_0 hW ?_
  refine P_aload_n d_141_4 rfl ?_
  refine A_gM d_141_5 cn_141 fk_CordLoft_35 k_0 hW hf (fun hk1 hf => ?_)
  refine P_aload_n d_141_8 rfl ?_
  refine A_gF d_141_9 cn_141 fk_CordLoft_45 ft_12_5 k_0 hW ?_
  refine A_V0 d_141_12 vk_141_114 ml_78 rfl k_38 hW rfl hf (fun r2 M3 hc hf => t_Acts_current hW  hc (fun hW hb3 => ?_))
  refine A_V2 d_141_15 vk_141_246 ml_142 rfl k_86 hW rfl hf (fun r4 M5 hc hf => t_Sets_leastDifference hW hk1 hb3 hc (fun hW => ?_))
  refine A_istore_n d_141_18 ml_141 rfl rfl ?_
  refine P_iload_n d_141_19 rfl ?_
  refine A_if_ge (tgt := 27) d_141_20 rfl hf (fun hf => ?_) (fun hf => ?_)
  · refine P_iload_n d_141_27 rfl ?_
    refine P_iload_n d_141_28 rfl ?_
    refine A_S1 d_141_29 sk_141_167 ml_92 rfl rfl hf (fun r6 M7 hc hf => t_Int_bitCount hW  hc (fun hW => ?_))
    refine P_iload_n d_141_32 rfl ?_
    refine A_S3 d_141_33 sk_141_132 ml_84 rfl rfl hf (fun r8 M9 hc hf => t_C_either hW  hc (fun hW => ?_))
    exact A_iret d_141_36 mr_141 hW hf k
  · refine A_iconst d_141_23 ic_m1 ?_
    refine P_goto (tgt := 36) d_141_24 rfl ?_
    exact A_iret d_141_36 mr_141 hW hf k
def f_Sets_leastMark_j63 (rec : Int32 → Int32 → AM → Option (Int32 × AM)) (v1 : Nat) (v2 : Int32) (v3 : Int32) (v5 : Int32) (M : AM) : Option (Int32 × AM) :=
  rec 1 (v5 + 1) M
set_option maxRecDepth 20000 in
theorem t_Sets_leastMark_j63 {G : GT} {d : Nat} {v1 : Nat} {v2 : Int32} {v3 : Int32} {v5 : Int32} {M : AM} {Q : AM → Option Value → Prop} {yo : Int32} {Mo : AM} {rec : Int32 → Int32 → AM → Option (Int32 × AM)} (hrec : ∀ (v4 : Int32) (v5 : Int32) (M : AM), WT M → rec v4 v5 M = some (yo, Mo) → PW G (d + 1) 144 23 [.ref 86, .ref v1, .int v2, .int v3, .int v4, .int v5] [] M 0 0 Q) (k1 : WT Mo → PW G (d + 1) 144 76 [.ref 86, .ref v1, .int v2, .int v3, .int yo, ux] [] Mo 0 0 Q) (hW : WT M) (hv1 : kd0 v1 = 5) (hf : f_Sets_leastMark_j63 rec v1 v2 v3 v5 M = some (yo, Mo)) : PW G (d + 1) 144 63 [.ref 86, .ref v1, .int v2, .int v3, ux, .int v5] [] M 0 0 Q := by
  refine A_iconst d_144_63 ic_1 ?_
  refine P_goto (tgt := 68) d_144_64 rfl ?_
  refine A_istore d_144_68 ml_144 rfl rfl ?_
  refine A_iinc d_144_70 ic_1 rfl ml_144 rfl rfl ?_
  refine P_goto (tgt := 23) d_144_73 rfl ?_
  exact hrec _ _ _ hW  hf
def f_Sets_leastMark_b23 (rec : Int32 → Int32 → AM → Option (Int32 × AM)) (v1 : Nat) (v2 : Int32) (v3 : Int32) (v4 : Int32) (v5 : Int32) (M : AM) : Option (Int32 × AM) :=
  if (gI M v1 6) ≤ v5 then some (v4, M) else if v4 = 0 then some (v4, M) else if ((v2 >>> (v5 &&& 31)) &&& 1) = 0 then f_Sets_leastMark_j63 rec v1 v2 v3 v5 M else ald 8 M (v1 + 6) v5 (fun x1 => bnd (f_Int_bitCount (x1 &&& v3) M) (fun r2 M3 => if (r2 % 2) = 0 then f_Sets_leastMark_j63 rec v1 v2 v3 v5 M3 else rec 0 (v5 + 1) M3))
def f_Sets_leastMark_l23 (v1 : Nat) (v2 : Int32) (v3 : Int32) : Nat → Int32 → Int32 → AM → Option (Int32 × AM)
  | 0, _, _, _ => none
  | n + 1, v4, v5, M => f_Sets_leastMark_b23 (f_Sets_leastMark_l23 v1 v2 v3 n) v1 v2 v3 v4 v5 M
set_option maxRecDepth 20000 in
theorem t_Sets_leastMark_b23 {G : GT} {d : Nat} {v1 : Nat} {v2 : Int32} {v3 : Int32} {v4 : Int32} {v5 : Int32} {M : AM} {Q : AM → Option Value → Prop} {yo : Int32} {Mo : AM} {rec : Int32 → Int32 → AM → Option (Int32 × AM)} (hrec : ∀ (v4 : Int32) (v5 : Int32) (M : AM), WT M → rec v4 v5 M = some (yo, Mo) → PW G (d + 1) 144 23 [.ref 86, .ref v1, .int v2, .int v3, .int v4, .int v5] [] M 0 0 Q) (k1 : WT Mo → PW G (d + 1) 144 76 [.ref 86, .ref v1, .int v2, .int v3, .int yo, ux] [] Mo 0 0 Q) (hW : WT M) (hv1 : kd0 v1 = 5)  (hf : f_Sets_leastMark_b23 rec v1 v2 v3 v4 v5 M = some (yo, Mo)) : PW G (d + 1) 144 23 [.ref 86, .ref v1, .int v2, .int v3, .int v4, .int v5] [] M 0 0 Q := by
  refine P_iload d_144_23 rfl ?_
  refine P_aload_n d_144_25 rfl ?_
  refine A_gI d_144_26 cn_144 fk_CordLoft_Sets_74 hv1 hW ?_
  refine A_icmp_ge (tgt := 76) d_144_29 rfl hf (fun hf => ?_) (fun hf => ?_)
  · refine P_fgt [true, true, true, true, true, false] ?_
    cases hf
    exact k1 hW 
  · refine P_iload d_144_32 rfl ?_
    refine A_if_eq (tgt := 76) d_144_34 rfl hf (fun hf => ?_) (fun hf => ?_)
    · refine P_fgt [true, true, true, true, true, false] ?_
      cases hf
      exact k1 hW 
    · refine P_iload_n d_144_37 rfl ?_
      refine P_iload d_144_38 rfl ?_
      refine P_ishr d_144_40 ?_
      refine A_iconst d_144_41 ic_1 ?_
      refine P_iand d_144_42 ?_
      refine A_if_eq (tgt := 63) d_144_43 rfl hf (fun hf => ?_) (fun hf => ?_)
      · refine P_fgt [true, true, true, true, false, true] ?_
        exact t_Sets_leastMark_j63 hrec k1 hW hv1 hf
      · refine P_aload_n d_144_46 rfl ?_
        refine A_gFr d_144_47 cn_144 fk_CordLoft_Sets_77 ft_5_8 hv1 hW ?_
        refine P_iload d_144_50 rfl ?_
        refine A_iald d_144_52 (kr_5_6 hv1) (lr_5_6 hv1) hW hf (fun hf => ?_)
        refine P_iload_n d_144_53 rfl ?_
        refine P_iand d_144_54 ?_
        refine A_S1 d_144_55 sk_144_52 ml_92 rfl rfl hf (fun r2 M3 hc hf => t_Int_bitCount hW  hc (fun hW => ?_))
        refine A_iconst d_144_58 ic_2 ?_
        refine P_irem d_144_59 nz_2 ?_
        refine A_if_ne (tgt := 67) d_144_60 rfl hf (fun hf => ?_) (fun hf => ?_)
        · refine A_iconst d_144_67 ic_0 ?_
          refine A_istore d_144_68 ml_144 rfl rfl ?_
          refine A_iinc d_144_70 ic_1 rfl ml_144 rfl rfl ?_
          refine P_goto (tgt := 23) d_144_73 rfl ?_
          exact hrec _ _ _ hW  hf
        · refine P_fgt [true, true, true, true, false, true] ?_
          exact t_Sets_leastMark_j63 hrec k1 hW hv1 hf
theorem t_Sets_leastMark_l23 {G : GT} {d : Nat} {v1 : Nat} {v2 : Int32} {v3 : Int32} {Q : AM → Option Value → Prop} {yo : Int32} {Mo : AM} (k1 : WT Mo → PW G (d + 1) 144 76 [.ref 86, .ref v1, .int v2, .int v3, .int yo, ux] [] Mo 0 0 Q) (hv1 : kd0 v1 = 5) : ∀ (z : Nat) (v4 : Int32) (v5 : Int32) (M : AM), WT M → f_Sets_leastMark_l23 v1 v2 v3 z v4 v5 M = some (yo, Mo) → PW G (d + 1) 144 23 [.ref 86, .ref v1, .int v2, .int v3, .int v4, .int v5] [] M 0 0 Q := by
  intro z
  induction z with
  | zero => intro v4 v5 M hW hf; cases hf
  | succ z ih => intro v4 v5 M hW hf; exact t_Sets_leastMark_b23 (fun v4 v5 M hW hf => ih v4 v5 M hW hf) k1 hW hv1  hf
def f_Sets_leastMark_b9 (rec : Int32 → AM → Option (Unit × AM)) (v1 : Nat) (v2 : Int32) (v3 : Int32) (M : AM) : Option (Unit × AM) :=
  bnd (f_Plan_allPictures v1 M) (fun r1 M2 => if r1 ≤ v3 then some ((), M2) else bnd (f_Sets_leastMark_l23 v1 v2 v3 fu 1 0 M2) (fun y3 M4 => if y3 = 0 then rec (v3 + 1) M4 else bnd (f_Int_bitCount v3 M4) (fun r5 M6 => bnd (f_Best_offer r5 v3 M6) (fun r7 M8 => rec (v3 + 1) M8))))
def f_Sets_leastMark_l9 (v1 : Nat) (v2 : Int32) : Nat → Int32 → AM → Option (Unit × AM)
  | 0, _, _ => none
  | n + 1, v3, M => f_Sets_leastMark_b9 (f_Sets_leastMark_l9 v1 v2 n) v1 v2 v3 M
set_option maxRecDepth 20000 in
theorem t_Sets_leastMark_b9 {G : GT} {d : Nat} {v1 : Nat} {v2 : Int32} {v3 : Int32} {M : AM} {Q : AM → Option Value → Prop} {yo : Unit} {Mo : AM} {rec : Int32 → AM → Option (Unit × AM)} (hrec : ∀ (v3 : Int32) (M : AM), WT M → rec v3 M = some (yo, Mo) → PW G (d + 1) 144 9 [.ref 86, .ref v1, .int v2, .int v3, ux, ux] [] M 0 0 Q) (k1 : WT Mo → PW G (d + 1) 144 99 [.ref 86, ux, ux, ux, ux, ux] [] Mo 0 0 Q) (hW : WT M) (hv1 : kd0 v1 = 5)  (hf : f_Sets_leastMark_b9 rec v1 v2 v3 M = some (yo, Mo)) : PW G (d + 1) 144 9 [.ref 86, .ref v1, .int v2, .int v3, ux, ux] [] M 0 0 Q := by
  refine P_iload_n d_144_9 rfl ?_
  refine P_aload_n d_144_10 rfl ?_
  refine A_V0 d_144_11 vk_144_71 ml_115 rfl hv1 hW rfl hf (fun r1 M2 hc hf => t_Plan_allPictures hW hv1 hc (fun hW => ?_))
  refine A_icmp_ge (tgt := 99) d_144_14 rfl hf (fun hf => ?_) (fun hf => ?_)
  · refine P_fgt [true, false, false, false, false, false] ?_
    cases hf
    exact k1 hW 
  · refine A_iconst d_144_17 ic_1 ?_
    refine A_istore d_144_18 ml_144 rfl rfl ?_
    refine A_iconst d_144_20 ic_0 ?_
    refine A_istore d_144_21 ml_144 rfl rfl ?_
    obtain ⟨y3, M4, hl, hf⟩ := bnd_some hf
    refine t_Sets_leastMark_l23 (fun hW => ?_) hv1 fu _ _ _ hW  hl
    refine P_iload d_144_76 rfl ?_
    refine A_if_eq (tgt := 93) d_144_78 rfl hf (fun hf => ?_) (fun hf => ?_)
    · refine A_iinc d_144_93 ic_1 rfl ml_144 rfl rfl ?_
      refine P_goto (tgt := 9) d_144_96 rfl ?_
      refine P_fgt [true, true, true, true, false, false] ?_
      exact hrec _ _ hW  hf
    · refine P_aload_n d_144_81 rfl ?_
      refine A_gF d_144_82 cn_144 fk_CordLoft_Sets_12 ft_7_0 k_86 hW ?_
      refine P_iload_n d_144_85 rfl ?_
      refine A_S1 d_144_86 sk_144_52 ml_92 rfl rfl hf (fun r5 M6 hc hf => t_Int_bitCount hW  hc (fun hW => ?_))
      refine P_iload_n d_144_89 rfl ?_
      refine A_V2 d_144_90 vk_144_58 ml_121 rfl k_87 hW rfl hf (fun r7 M8 hc hf => t_Best_offer hW  hc (fun hW => ?_))
      refine A_iinc d_144_93 ic_1 rfl ml_144 rfl rfl ?_
      refine P_goto (tgt := 9) d_144_96 rfl ?_
      refine P_fgt [true, true, true, true, false, false] ?_
      exact hrec _ _ hW  hf
theorem t_Sets_leastMark_l9 {G : GT} {d : Nat} {v1 : Nat} {v2 : Int32} {Q : AM → Option Value → Prop} {yo : Unit} {Mo : AM} (k1 : WT Mo → PW G (d + 1) 144 99 [.ref 86, ux, ux, ux, ux, ux] [] Mo 0 0 Q) (hv1 : kd0 v1 = 5) : ∀ (z : Nat) (v3 : Int32) (M : AM), WT M → f_Sets_leastMark_l9 v1 v2 z v3 M = some (yo, Mo) → PW G (d + 1) 144 9 [.ref 86, .ref v1, .int v2, .int v3, ux, ux] [] M 0 0 Q := by
  intro z
  induction z with
  | zero => intro v3 M hW hf; cases hf
  | succ z ih => intro v3 M hW hf; exact t_Sets_leastMark_b9 (fun v3 M hW hf => ih v3 M hW hf) k1 hW hv1  hf
def f_Sets_leastMark (a1 : Nat) (a2 : Int32) (M : AM) : Option (Int32 × AM) :=
  bnd (f_Best_clear  M) (fun r1 M2 => bnd (f_Sets_leastMark_l9 a1 a2 fu 1 M2) (fun y3 M4 => some (gI M4 87 1, M4)))
set_option maxRecDepth 20000 in
theorem t_Sets_leastMark {G : GT} {d : Nat} {a1 : Nat} {a2 : Int32} {M : AM} {Q : AM → Option Value → Prop} {r : Int32} {M' : AM} (hW : WT M) (ha1 : kd0 a1 = 5) (hf : f_Sets_leastMark a1 a2 M = some (r, M')) (k : WT M' → Q M' (some (.int r)))  : Cal G (d + 1) 144 [.ref 86, .ref a1, .int a2] M Q := by
  refine A_enter ml_144 rfl ?_
  refine P_aload_n d_144_0 rfl ?_
  refine A_gF d_144_1 cn_144 fk_CordLoft_Sets_12 ft_7_0 k_86 hW ?_
  refine A_V0 d_144_4 vk_144_49 ml_120 rfl k_87 hW rfl hf (fun r1 M2 hc hf => t_Best_clear hW  hc (fun hW => ?_))
  refine A_iconst d_144_7 ic_1 ?_
  refine A_istore_n d_144_8 ml_144 rfl rfl ?_
  obtain ⟨y3, M4, hl, hf⟩ := bnd_some hf
  refine t_Sets_leastMark_l9 (fun hW => ?_) ha1 fu _ _ hW  hl
  refine P_aload_n d_144_99 rfl ?_
  refine A_gF d_144_100 cn_144 fk_CordLoft_Sets_12 ft_7_0 k_86 hW ?_
  refine A_gI d_144_103 cn_144 fk_CordLoft_Sets_62 k_87 hW ?_
  exact A_iret d_144_106 mr_144 hW hf k
def f_C_mark (a1 : Int32) (M : AM) : Option (Int32 × AM) :=
  ckK (gR M 0 3) 5 (bnd (f_C_freeCords  M) (fun r2 M3 => bnd (f_Sets_leastMark (gR M 0 3) r2 M3) (fun r4 M5 => if 0 ≤ r4 then bnd (f_Int_bitCount r4 M5) (fun r6 M7 => bnd (f_C_either a1 r6 r4 M7) (fun r8 M9 => some (r8, M9))) else some ((-1), M5))))
set_option maxRecDepth 20000 in
theorem t_C_mark {G : GT} {d : Nat} {a1 : Int32} {M : AM} {Q : AM → Option Value → Prop} {r : Int32} {M' : AM} (hW : WT M)  (hf : f_C_mark a1 M = some (r, M')) (k : WT M' → Q M' (some (.int r)))  : Cal G (d + 2) 143 [.ref 0, .int a1] M Q := by
  refine A_enter ml_143 rfl ?_
  refine P_aload_n d_143_0 rfl ?_
  refine A_gF d_143_1 cn_143 fk_CordLoft_67 ft_12_9 k_0 hW ?_
  refine P_aload_n d_143_4 rfl ?_
  refine A_gM d_143_5 cn_143 fk_CordLoft_35 k_0 hW hf (fun hk1 hf => ?_)
  refine P_aload_n d_143_8 rfl ?_
  refine A_V0 d_143_9 vk_143_223 ml_129 rfl k_0 hW rfl hf (fun r2 M3 hc hf => t_C_freeCords hW  hc (fun hW => ?_))
  refine A_V2 d_143_12 vk_143_249 ml_144 rfl k_86 hW rfl hf (fun r4 M5 hc hf => t_Sets_leastMark hW hk1 hc (fun hW => ?_))
  refine A_istore_n d_143_15 ml_143 rfl rfl ?_
  refine P_iload_n d_143_16 rfl ?_
  refine A_if_ge (tgt := 24) d_143_17 rfl hf (fun hf => ?_) (fun hf => ?_)
  · refine P_iload_n d_143_24 rfl ?_
    refine P_iload_n d_143_25 rfl ?_
    refine A_S1 d_143_26 sk_143_167 ml_92 rfl rfl hf (fun r6 M7 hc hf => t_Int_bitCount hW  hc (fun hW => ?_))
    refine P_iload_n d_143_29 rfl ?_
    refine A_S3 d_143_30 sk_143_132 ml_84 rfl rfl hf (fun r8 M9 hc hf => t_C_either hW  hc (fun hW => ?_))
    exact A_iret d_143_33 mr_143 hW hf k
  · refine A_iconst d_143_20 ic_m1 ?_
    refine P_goto (tgt := 33) d_143_21 rfl ?_
    exact A_iret d_143_33 mr_143 hW hf k
def f_Paths_come_j67 (v1 : Int32) (v3 : Int32) (M : AM) : Option (Unit × AM) :=
  ald 256 M 93 v3 (fun x1 => ald 256 M 93 v1 (fun x2 => if x1 = (x2 + 1) then ald 256 M 97 v3 (fun x3 => ald 256 M 97 v1 (fun x4 => ast 256 M 97 v3 (x3 + x4) (fun M5 => some ((), M5)))) else some ((), M)))
set_option maxRecDepth 20000 in
theorem t_Paths_come_j67 {G : GT} {d : Nat} {v1 : Int32} {v3 : Int32} {M : AM} {Q : AM → Option Value → Prop} {r : Unit} {M' : AM} (k : WT M' → Q M' none) (hW : WT M)  (hf : f_Paths_come_j67 v1 v3 M = some (r, M')) : PW G d 147 67 [.ref 92, .int v1, ux, .int v3] [] M 0 0 Q := by
  refine P_aload_n d_147_67 rfl ?_
  refine A_gF d_147_68 cn_147 fk_CordLoft_Paths_11 ft_4_0 k_92 hW ?_
  refine P_iload_n d_147_71 rfl ?_
  refine A_iald d_147_72 k_93 l_93 hW hf (fun hf => ?_)
  refine P_aload_n d_147_73 rfl ?_
  refine A_gF d_147_74 cn_147 fk_CordLoft_Paths_11 ft_4_0 k_92 hW ?_
  refine P_iload_n d_147_77 rfl ?_
  refine A_iald d_147_78 k_93 l_93 hW hf (fun hf => ?_)
  refine A_iconst d_147_79 ic_1 ?_
  refine P_iadd d_147_80 ?_
  refine A_icmp_ne (tgt := 99) d_147_81 rfl hf (fun hf => ?_) (fun hf => ?_)
  · exact A_ret d_147_99 mr_147 hW hf k
  · refine P_aload_n d_147_84 rfl ?_
    refine A_gF d_147_85 cn_147 fk_CordLoft_Paths_26 ft_4_5 k_92 hW ?_
    refine P_iload_n d_147_88 rfl ?_
    refine P_dup2 d_147_89 rfl rfl ?_
    refine A_iald d_147_90 k_97 l_97 hW hf (fun hf => ?_)
    refine P_aload_n d_147_91 rfl ?_
    refine A_gF d_147_92 cn_147 fk_CordLoft_Paths_26 ft_4_5 k_92 hW ?_
    refine P_iload_n d_147_95 rfl ?_
    refine A_iald d_147_96 k_97 l_97 hW hf (fun hf => ?_)
    refine P_iadd d_147_97 ?_
    refine A_iast d_147_98 k_97 l_97 hW hf (fun hW hf => ?_)
    exact A_ret d_147_99 mr_147 hW hf k
def f_Paths_come (a1 : Int32) (a2 : Int32) (a3 : Int32) (M : AM) : Option (Unit × AM) :=
  ald 256 M 93 a3 (fun x1 => if 0 ≤ x1 then f_Paths_come_j67 a1 a3 M else if 256 ≤ (gI M 92 4) then f_Paths_come_j67 a1 a3 M else ald 256 M 93 a1 (fun x2 => ast 256 M 93 a3 (x2 + 1) (fun M3 => ast 256 M3 94 a3 a1 (fun M4 => ast 256 M4 95 a3 a2 (fun M5 => ast 256 M5 96 (gI M5 92 4) a3 (fun M6 => wI M6 92 4 ((gI M6 92 4) + 1) (fun M7 => f_Paths_come_j67 a1 a3 M7)))))))
set_option maxRecDepth 20000 in
theorem t_Paths_come {G : GT} {d : Nat} {a1 : Int32} {a2 : Int32} {a3 : Int32} {M : AM} {Q : AM → Option Value → Prop} {r : Unit} {M' : AM} (hW : WT M)  (hf : f_Paths_come a1 a2 a3 M = some (r, M')) (k : WT M' → Q M' none)  : Cal G d 147 [.ref 92, .int a1, .int a2, .int a3] M Q := by
  refine A_enter ml_147 rfl ?_
  refine P_aload_n d_147_0 rfl ?_
  refine A_gF d_147_1 cn_147 fk_CordLoft_Paths_11 ft_4_0 k_92 hW ?_
  refine P_iload_n d_147_4 rfl ?_
  refine A_iald d_147_5 k_93 l_93 hW hf (fun hf => ?_)
  refine A_if_ge (tgt := 67) d_147_6 rfl hf (fun hf => ?_) (fun hf => ?_)
  · refine P_fgt [true, true, false, true] ?_
    exact t_Paths_come_j67 k hW  hf
  · refine P_aload_n d_147_9 rfl ?_
    refine A_gI d_147_10 cn_147 fk_CordLoft_Paths_41 k_92 hW ?_
    refine P_sipush d_147_13 si_256 ?_
    refine A_icmp_ge (tgt := 67) d_147_16 rfl hf (fun hf => ?_) (fun hf => ?_)
    · refine P_fgt [true, true, false, true] ?_
      exact t_Paths_come_j67 k hW  hf
    · refine P_aload_n d_147_19 rfl ?_
      refine A_gF d_147_20 cn_147 fk_CordLoft_Paths_11 ft_4_0 k_92 hW ?_
      refine P_iload_n d_147_23 rfl ?_
      refine P_aload_n d_147_24 rfl ?_
      refine A_gF d_147_25 cn_147 fk_CordLoft_Paths_11 ft_4_0 k_92 hW ?_
      refine P_iload_n d_147_28 rfl ?_
      refine A_iald d_147_29 k_93 l_93 hW hf (fun hf => ?_)
      refine A_iconst d_147_30 ic_1 ?_
      refine P_iadd d_147_31 ?_
      refine A_iast d_147_32 k_93 l_93 hW hf (fun hW hf => ?_)
      refine P_aload_n d_147_33 rfl ?_
      refine A_gF d_147_34 cn_147 fk_CordLoft_Paths_17 ft_4_1 k_92 hW ?_
      refine P_iload_n d_147_37 rfl ?_
      refine P_iload_n d_147_38 rfl ?_
      refine A_iast d_147_39 k_94 l_94 hW hf (fun hW hf => ?_)
      refine P_aload_n d_147_40 rfl ?_
      refine A_gF d_147_41 cn_147 fk_CordLoft_Paths_20 ft_4_2 k_92 hW ?_
      refine P_iload_n d_147_44 rfl ?_
      refine P_iload_n d_147_45 rfl ?_
      refine A_iast d_147_46 k_95 l_95 hW hf (fun hW hf => ?_)
      refine P_aload_n d_147_47 rfl ?_
      refine A_gF d_147_48 cn_147 fk_CordLoft_Paths_23 ft_4_3 k_92 hW ?_
      refine P_aload_n d_147_51 rfl ?_
      refine A_gI d_147_52 cn_147 fk_CordLoft_Paths_41 k_92 hW ?_
      refine P_iload_n d_147_55 rfl ?_
      refine A_iast d_147_56 k_96 l_96 hW hf (fun hW hf => ?_)
      refine P_aload_n d_147_57 rfl ?_
      refine P_dup d_147_58 rfl ?_
      refine A_gI d_147_59 cn_147 fk_CordLoft_Paths_41 k_92 hW ?_
      refine A_iconst d_147_62 ic_1 ?_
      refine P_iadd d_147_63 ?_
      refine A_pI d_147_64 cn_147 fp_CordLoft_Paths_41 k_92 hW hf (fun hW hf => ?_)
      refine P_fgt [true, true, false, true] ?_
      exact t_Paths_come_j67 k hW  hf
def f_Paths_spread_b84 (rec : Int32 → AM → Option (Unit × AM)) (v1 : Nat) (v2 : Nat) (v3 : Int32) (v4 : Int32) (M : AM) : Option (Unit × AM) :=
  if (gI M v1 6) ≤ v4 then some ((), M) else ald 256 M 96 v3 (fun x1 => ald 8 M (v1 + 6) v4 (fun x2 => if (((gI M v2 1) >>> (v4 &&& 31)) &&& 1) = 0 then bnd (f_Int_bitCount (x1 ^^^ x2) M) (fun r3 M4 => if r3 < (gI M4 v1 14) then rec (v4 + 1) M4 else ald 256 M4 96 v3 (fun x5 => bnd (f_Paths_come x5 v4 (x1 ^^^ x2) M4) (fun r6 M7 => rec (v4 + 1) M7))) else rec (v4 + 1) M))
def f_Paths_spread_l84 (v1 : Nat) (v2 : Nat) (v3 : Int32) : Nat → Int32 → AM → Option (Unit × AM)
  | 0, _, _ => none
  | n + 1, v4, M => f_Paths_spread_b84 (f_Paths_spread_l84 v1 v2 v3 n) v1 v2 v3 v4 M
set_option maxRecDepth 20000 in
theorem t_Paths_spread_b84 {G : GT} {d : Nat} {v1 : Nat} {v2 : Nat} {v3 : Int32} {v4 : Int32} {M : AM} {Q : AM → Option Value → Prop} {yo : Unit} {Mo : AM} {rec : Int32 → AM → Option (Unit × AM)} (hrec : ∀ (v4 : Int32) (M : AM), WT M → rec v4 M = some (yo, Mo) → PW G (d + 1) 146 84 [.ref 92, .ref v1, .ref v2, .int v3, .int v4, ux] [] M 0 0 Q) (k1 : WT Mo → PW G (d + 1) 146 153 [.ref 92, .ref v1, .ref v2, .int v3, ux, ux] [] Mo 0 0 Q) (hW : WT M) (hv1 : kd0 v1 = 5) (hv2 : kd0 v2 = 9)  (hf : f_Paths_spread_b84 rec v1 v2 v3 v4 M = some (yo, Mo)) : PW G (d + 1) 146 84 [.ref 92, .ref v1, .ref v2, .int v3, .int v4, ux] [] M 0 0 Q := by
  refine P_iload d_146_84 rfl ?_
  refine P_aload_n d_146_86 rfl ?_
  refine A_gI d_146_87 cn_146 fk_CordLoft_Paths_44 hv1 hW ?_
  refine A_icmp_ge (tgt := 153) d_146_90 rfl hf (fun hf => ?_) (fun hf => ?_)
  · refine P_fgt [true, true, true, true, false, false] ?_
    cases hf
    exact k1 hW 
  · refine P_aload_n d_146_93 rfl ?_
    refine A_gF d_146_94 cn_146 fk_CordLoft_Paths_23 ft_4_3 k_92 hW ?_
    refine P_iload_n d_146_97 rfl ?_
    refine A_iald d_146_98 k_96 l_96 hW hf (fun hf => ?_)
    refine P_aload_n d_146_99 rfl ?_
    refine A_gFr d_146_100 cn_146 fk_CordLoft_Paths_47 ft_5_8 hv1 hW ?_
    refine P_iload d_146_103 rfl ?_
    refine A_iald d_146_105 (kr_5_6 hv1) (lr_5_6 hv1) hW hf (fun hf => ?_)
    refine P_ixor d_146_106 ?_
    refine A_istore d_146_107 ml_146 rfl rfl ?_
    refine P_aload_n d_146_109 rfl ?_
    refine A_gI d_146_110 cn_146 fk_CordLoft_Paths_50 hv2 hW ?_
    refine P_iload d_146_113 rfl ?_
    refine P_ishr d_146_115 ?_
    refine A_iconst d_146_116 ic_1 ?_
    refine P_iand d_146_117 ?_
    refine A_if_ne (tgt := 147) d_146_118 rfl hf (fun hf => ?_) (fun hf => ?_)
    · refine A_iinc d_146_147 ic_1 rfl ml_146 rfl rfl ?_
      refine P_goto (tgt := 84) d_146_150 rfl ?_
      refine P_fgt [true, true, true, true, true, false] ?_
      exact hrec _ _ hW  hf
    · refine P_iload d_146_121 rfl ?_
      refine A_S1 d_146_123 sk_146_53 ml_92 rfl rfl hf (fun r3 M4 hc hf => t_Int_bitCount hW  hc (fun hW => ?_))
      refine P_aload_n d_146_126 rfl ?_
      refine A_gI d_146_127 cn_146 fk_CordLoft_Paths_59 hv1 hW ?_
      refine A_icmp_lt (tgt := 147) d_146_130 rfl hf (fun hf => ?_) (fun hf => ?_)
      · refine A_iinc d_146_147 ic_1 rfl ml_146 rfl rfl ?_
        refine P_goto (tgt := 84) d_146_150 rfl ?_
        refine P_fgt [true, true, true, true, true, false] ?_
        exact hrec _ _ hW  hf
      · refine P_aload_n d_146_133 rfl ?_
        refine P_aload_n d_146_134 rfl ?_
        refine A_gF d_146_135 cn_146 fk_CordLoft_Paths_23 ft_4_3 k_92 hW ?_
        refine P_iload_n d_146_138 rfl ?_
        refine A_iald d_146_139 k_96 l_96 hW hf (fun hf => ?_)
        refine P_iload d_146_140 rfl ?_
        refine P_iload d_146_142 rfl ?_
        refine A_V3 d_146_144 vk_146_62 ml_147 rfl k_92 hW rfl hf (fun r6 M7 hc hf => t_Paths_come hW  hc (fun hW => ?_))
        refine A_iinc d_146_147 ic_1 rfl ml_146 rfl rfl ?_
        refine P_goto (tgt := 84) d_146_150 rfl ?_
        refine P_fgt [true, true, true, true, true, false] ?_
        exact hrec _ _ hW  hf
theorem t_Paths_spread_l84 {G : GT} {d : Nat} {v1 : Nat} {v2 : Nat} {v3 : Int32} {Q : AM → Option Value → Prop} {yo : Unit} {Mo : AM} (k1 : WT Mo → PW G (d + 1) 146 153 [.ref 92, .ref v1, .ref v2, .int v3, ux, ux] [] Mo 0 0 Q) (hv1 : kd0 v1 = 5) (hv2 : kd0 v2 = 9) : ∀ (z : Nat) (v4 : Int32) (M : AM), WT M → f_Paths_spread_l84 v1 v2 v3 z v4 M = some (yo, Mo) → PW G (d + 1) 146 84 [.ref 92, .ref v1, .ref v2, .int v3, .int v4, ux] [] M 0 0 Q := by
  intro z
  induction z with
  | zero => intro v4 M hW hf; cases hf
  | succ z ih => intro v4 M hW hf; exact t_Paths_spread_b84 (fun v4 M hW hf => ih v4 M hW hf) k1 hW hv1 hv2  hf
def f_Paths_spread_b66 (rec : Int32 → AM → Option (Unit × AM)) (v1 : Nat) (v2 : Nat) (v3 : Int32) (M : AM) : Option (Unit × AM) :=
  if (gI M 92 4) ≤ v3 then some ((), M) else if 256 ≤ v3 then some ((), M) else bnd (f_Paths_spread_l84 v1 v2 v3 fu 0 M) (fun y1 M2 => rec (v3 + 1) M2)
def f_Paths_spread_l66 (v1 : Nat) (v2 : Nat) : Nat → Int32 → AM → Option (Unit × AM)
  | 0, _, _ => none
  | n + 1, v3, M => f_Paths_spread_b66 (f_Paths_spread_l66 v1 v2 n) v1 v2 v3 M
set_option maxRecDepth 20000 in
theorem t_Paths_spread_b66 {G : GT} {d : Nat} {v1 : Nat} {v2 : Nat} {v3 : Int32} {M : AM} {Q : AM → Option Value → Prop} {yo : Unit} {Mo : AM} {rec : Int32 → AM → Option (Unit × AM)} (hrec : ∀ (v3 : Int32) (M : AM), WT M → rec v3 M = some (yo, Mo) → PW G (d + 1) 146 66 [.ref 92, .ref v1, .ref v2, .int v3, ux, ux] [] M 0 0 Q) (k1 : WT Mo → PW G (d + 1) 146 159 [ux, ux, ux, ux, ux, ux] [] Mo 0 0 Q) (hW : WT M) (hv1 : kd0 v1 = 5) (hv2 : kd0 v2 = 9)  (hf : f_Paths_spread_b66 rec v1 v2 v3 M = some (yo, Mo)) : PW G (d + 1) 146 66 [.ref 92, .ref v1, .ref v2, .int v3, ux, ux] [] M 0 0 Q := by
  refine P_iload_n d_146_66 rfl ?_
  refine P_aload_n d_146_67 rfl ?_
  refine A_gI d_146_68 cn_146 fk_CordLoft_Paths_41 k_92 hW ?_
  refine A_icmp_ge (tgt := 159) d_146_71 rfl hf (fun hf => ?_) (fun hf => ?_)
  · refine P_fgt [false, false, false, false, false, false] ?_
    cases hf
    exact k1 hW 
  · refine P_iload_n d_146_74 rfl ?_
    refine P_sipush d_146_75 si_256 ?_
    refine A_icmp_ge (tgt := 159) d_146_78 rfl hf (fun hf => ?_) (fun hf => ?_)
    · refine P_fgt [false, false, false, false, false, false] ?_
      cases hf
      exact k1 hW 
    · refine A_iconst d_146_81 ic_0 ?_
      refine A_istore d_146_82 ml_146 rfl rfl ?_
      obtain ⟨y1, M2, hl, hf⟩ := bnd_some hf
      refine t_Paths_spread_l84 (fun hW => ?_) hv1 hv2 fu _ _ hW  hl
      refine A_iinc d_146_153 ic_1 rfl ml_146 rfl rfl ?_
      refine P_goto (tgt := 66) d_146_156 rfl ?_
      exact hrec _ _ hW  hf
theorem t_Paths_spread_l66 {G : GT} {d : Nat} {v1 : Nat} {v2 : Nat} {Q : AM → Option Value → Prop} {yo : Unit} {Mo : AM} (k1 : WT Mo → PW G (d + 1) 146 159 [ux, ux, ux, ux, ux, ux] [] Mo 0 0 Q) (hv1 : kd0 v1 = 5) (hv2 : kd0 v2 = 9) : ∀ (z : Nat) (v3 : Int32) (M : AM), WT M → f_Paths_spread_l66 v1 v2 z v3 M = some (yo, Mo) → PW G (d + 1) 146 66 [.ref 92, .ref v1, .ref v2, .int v3, ux, ux] [] M 0 0 Q := by
  intro z
  induction z with
  | zero => intro v3 M hW hf; cases hf
  | succ z ih => intro v3 M hW hf; exact t_Paths_spread_b66 (fun v3 M hW hf => ih v3 M hW hf) k1 hW hv1 hv2  hf
def f_Paths_spread_b2 (rec : Int32 → AM → Option (Unit × AM)) (v1 : Nat) (v2 : Nat) (v3 : Int32) (M : AM) : Option (Unit × AM) :=
  if 256 ≤ v3 then some ((), M) else ast 256 M 93 v3 (-1) (fun M1 => ast 256 M1 97 v3 0 (fun M2 => rec (v3 + 1) M2))
def f_Paths_spread_l2 (v1 : Nat) (v2 : Nat) : Nat → Int32 → AM → Option (Unit × AM)
  | 0, _, _ => none
  | n + 1, v3, M => f_Paths_spread_b2 (f_Paths_spread_l2 v1 v2 n) v1 v2 v3 M
set_option maxRecDepth 20000 in
theorem t_Paths_spread_b2 {G : GT} {d : Nat} {v1 : Nat} {v2 : Nat} {v3 : Int32} {M : AM} {Q : AM → Option Value → Prop} {yo : Unit} {Mo : AM} {rec : Int32 → AM → Option (Unit × AM)} (hrec : ∀ (v3 : Int32) (M : AM), WT M → rec v3 M = some (yo, Mo) → PW G (d + 1) 146 2 [.ref 92, .ref v1, .ref v2, .int v3, ux, ux] [] M 0 0 Q) (k1 : WT Mo → PW G (d + 1) 146 29 [.ref 92, .ref v1, .ref v2, ux, ux, ux] [] Mo 0 0 Q) (hW : WT M) (hv1 : kd0 v1 = 5) (hv2 : kd0 v2 = 9)  (hf : f_Paths_spread_b2 rec v1 v2 v3 M = some (yo, Mo)) : PW G (d + 1) 146 2 [.ref 92, .ref v1, .ref v2, .int v3, ux, ux] [] M 0 0 Q := by
  refine P_iload_n d_146_2 rfl ?_
  refine P_sipush d_146_3 si_256 ?_
  refine A_icmp_ge (tgt := 29) d_146_6 rfl hf (fun hf => ?_) (fun hf => ?_)
  · refine P_fgt [true, true, true, false, false, false] ?_
    cases hf
    exact k1 hW 
  · refine P_aload_n d_146_9 rfl ?_
    refine A_gF d_146_10 cn_146 fk_CordLoft_Paths_11 ft_4_0 k_92 hW ?_
    refine P_iload_n d_146_13 rfl ?_
    refine A_iconst d_146_14 ic_m1 ?_
    refine A_iast d_146_15 k_93 l_93 hW hf (fun hW hf => ?_)
    refine P_aload_n d_146_16 rfl ?_
    refine A_gF d_146_17 cn_146 fk_CordLoft_Paths_26 ft_4_5 k_92 hW ?_
    refine P_iload_n d_146_20 rfl ?_
    refine A_iconst d_146_21 ic_0 ?_
    refine A_iast d_146_22 k_97 l_97 hW hf (fun hW hf => ?_)
    refine A_iinc d_146_23 ic_1 rfl ml_146 rfl rfl ?_
    refine P_goto (tgt := 2) d_146_26 rfl ?_
    exact hrec _ _ hW  hf
theorem t_Paths_spread_l2 {G : GT} {d : Nat} {v1 : Nat} {v2 : Nat} {Q : AM → Option Value → Prop} {yo : Unit} {Mo : AM} (k1 : WT Mo → PW G (d + 1) 146 29 [.ref 92, .ref v1, .ref v2, ux, ux, ux] [] Mo 0 0 Q) (hv1 : kd0 v1 = 5) (hv2 : kd0 v2 = 9) : ∀ (z : Nat) (v3 : Int32) (M : AM), WT M → f_Paths_spread_l2 v1 v2 z v3 M = some (yo, Mo) → PW G (d + 1) 146 2 [.ref 92, .ref v1, .ref v2, .int v3, ux, ux] [] M 0 0 Q := by
  intro z
  induction z with
  | zero => intro v3 M hW hf; cases hf
  | succ z ih => intro v3 M hW hf; exact t_Paths_spread_b2 (fun v3 M hW hf => ih v3 M hW hf) k1 hW hv1 hv2  hf
def f_Paths_spread (a1 : Nat) (a2 : Nat) (M : AM) : Option (Unit × AM) :=
  bnd (f_Paths_spread_l2 a1 a2 fu 0 M) (fun y1 M2 => ast 256 M2 93 (gI M2 a2 0) 0 (fun M3 => ast 256 M3 97 (gI M3 a2 0) 1 (fun M4 => ast 256 M4 96 0 (gI M4 a2 0) (fun M5 => wI M5 92 4 1 (fun M6 => bnd (f_Paths_spread_l66 a1 a2 fu 0 M6) (fun y7 M8 => some ((), M8)))))))
set_option maxRecDepth 20000 in
theorem t_Paths_spread {G : GT} {d : Nat} {a1 : Nat} {a2 : Nat} {M : AM} {Q : AM → Option Value → Prop} {r : Unit} {M' : AM} (hW : WT M) (ha1 : kd0 a1 = 5) (ha2 : kd0 a2 = 9) (hf : f_Paths_spread a1 a2 M = some (r, M')) (k : WT M' → Q M' none)  : Cal G (d + 1) 146 [.ref 92, .ref a1, .ref a2] M Q := by
  refine A_enter ml_146 rfl ?_
  refine A_iconst d_146_0 ic_0 ?_
  refine A_istore_n d_146_1 ml_146 rfl rfl ?_
  obtain ⟨y1, M2, hl, hf⟩ := bnd_some hf
  refine t_Paths_spread_l2 (fun hW => ?_) ha1 ha2 fu _ _ hW  hl
  refine P_aload_n d_146_29 rfl ?_
  refine A_gF d_146_30 cn_146 fk_CordLoft_Paths_11 ft_4_0 k_92 hW ?_
  refine P_aload_n d_146_33 rfl ?_
  refine A_gI d_146_34 cn_146 fk_CordLoft_Paths_36 ha2 hW ?_
  refine A_iconst d_146_37 ic_0 ?_
  refine A_iast d_146_38 k_93 l_93 hW hf (fun hW hf => ?_)
  refine P_aload_n d_146_39 rfl ?_
  refine A_gF d_146_40 cn_146 fk_CordLoft_Paths_26 ft_4_5 k_92 hW ?_
  refine P_aload_n d_146_43 rfl ?_
  refine A_gI d_146_44 cn_146 fk_CordLoft_Paths_36 ha2 hW ?_
  refine A_iconst d_146_47 ic_1 ?_
  refine A_iast d_146_48 k_97 l_97 hW hf (fun hW hf => ?_)
  refine P_aload_n d_146_49 rfl ?_
  refine A_gF d_146_50 cn_146 fk_CordLoft_Paths_23 ft_4_3 k_92 hW ?_
  refine A_iconst d_146_53 ic_0 ?_
  refine P_aload_n d_146_54 rfl ?_
  refine A_gI d_146_55 cn_146 fk_CordLoft_Paths_36 ha2 hW ?_
  refine A_iast d_146_58 k_96 l_96 hW hf (fun hW hf => ?_)
  refine P_aload_n d_146_59 rfl ?_
  refine A_iconst d_146_60 ic_1 ?_
  refine A_pI d_146_61 cn_146 fp_CordLoft_Paths_41 k_92 hW hf (fun hW hf => ?_)
  refine A_iconst d_146_64 ic_0 ?_
  refine A_istore_n d_146_65 ml_146 rfl rfl ?_
  obtain ⟨y7, M8, hl, hf⟩ := bnd_some hf
  refine t_Paths_spread_l66 (fun hW => ?_) ha1 ha2 fu _ _ hW  hl
  exact A_ret d_146_159 mr_146 hW hf k
def f_Paths_layRow_b26 (rec : Int32 → Int32 → AM → Option (Unit × AM)) (v2 : Int32) (v3 : Int32) (v4 : Int32) (M : AM) : Option (Unit × AM) :=
  if v4 < 0 then some ((), M) else ald 256 M 95 v3 (fun x1 => ast 256 M 98 v4 x1 (fun M2 => ald 256 M2 94 v3 (fun x3 => rec x3 (v4 + (-1)) M2)))
def f_Paths_layRow_l26 (v2 : Int32) : Nat → Int32 → Int32 → AM → Option (Unit × AM)
  | 0, _, _, _ => none
  | n + 1, v3, v4, M => f_Paths_layRow_b26 (f_Paths_layRow_l26 v2 n) v2 v3 v4 M
set_option maxRecDepth 20000 in
theorem t_Paths_layRow_b26 {G : GT} {d : Nat} {v2 : Int32} {v3 : Int32} {v4 : Int32} {M : AM} {Q : AM → Option Value → Prop} {yo : Unit} {Mo : AM} {rec : Int32 → Int32 → AM → Option (Unit × AM)} (hrec : ∀ (v3 : Int32) (v4 : Int32) (M : AM), WT M → rec v3 v4 M = some (yo, Mo) → PW G (d + 1) 148 26 [.ref 92, ux, .int v2, .int v3, .int v4] [] M 0 0 Q) (k1 : WT Mo → PW G (d + 1) 148 57 [ux, ux, .int v2, ux, ux] [] Mo 0 0 Q) (hW : WT M)   (hf : f_Paths_layRow_b26 rec v2 v3 v4 M = some (yo, Mo)) : PW G (d + 1) 148 26 [.ref 92, ux, .int v2, .int v3, .int v4] [] M 0 0 Q := by
  refine P_iload d_148_26 rfl ?_
  refine A_if_lt (tgt := 57) d_148_28 rfl hf (fun hf => ?_) (fun hf => ?_)
  · refine P_fgt [false, false, true, false, false] ?_
    cases hf
    exact k1 hW 
  · refine P_aload_n d_148_31 rfl ?_
    refine A_gF d_148_32 cn_148 fk_CordLoft_Paths_29 ft_4_6 k_92 hW ?_
    refine P_iload d_148_35 rfl ?_
    refine P_aload_n d_148_37 rfl ?_
    refine A_gF d_148_38 cn_148 fk_CordLoft_Paths_20 ft_4_2 k_92 hW ?_
    refine P_iload_n d_148_41 rfl ?_
    refine A_iald d_148_42 k_95 l_95 hW hf (fun hf => ?_)
    refine A_iast d_148_43 k_98 l_98 hW hf (fun hW hf => ?_)
    refine P_aload_n d_148_44 rfl ?_
    refine A_gF d_148_45 cn_148 fk_CordLoft_Paths_17 ft_4_1 k_92 hW ?_
    refine P_iload_n d_148_48 rfl ?_
    refine A_iald d_148_49 k_94 l_94 hW hf (fun hf => ?_)
    refine A_istore_n d_148_50 ml_148 rfl rfl ?_
    refine A_iinc d_148_51 ic_m1 rfl ml_148 rfl rfl ?_
    refine P_goto (tgt := 26) d_148_54 rfl ?_
    exact hrec _ _ _ hW  hf
theorem t_Paths_layRow_l26 {G : GT} {d : Nat} {v2 : Int32} {Q : AM → Option Value → Prop} {yo : Unit} {Mo : AM} (k1 : WT Mo → PW G (d + 1) 148 57 [ux, ux, .int v2, ux, ux] [] Mo 0 0 Q)  : ∀ (z : Nat) (v3 : Int32) (v4 : Int32) (M : AM), WT M → f_Paths_layRow_l26 v2 z v3 v4 M = some (yo, Mo) → PW G (d + 1) 148 26 [.ref 92, ux, .int v2, .int v3, .int v4] [] M 0 0 Q := by
  intro z
  induction z with
  | zero => intro v3 v4 M hW hf; cases hf
  | succ z ih => intro v3 v4 M hW hf; exact t_Paths_layRow_b26 (fun v3 v4 M hW hf => ih v3 v4 M hW hf) k1 hW   hf
def f_Paths_layRow (a1 : Int32) (M : AM) : Option (Int32 × AM) :=
  ald 256 M 93 a1 (fun x1 => wI M 92 7 (if x1 < 0 then 0 else x1) (fun M2 => bnd (f_Paths_layRow_l26 x1 fu a1 ((gI M2 92 7) - 1) M2) (fun y3 M4 => some (x1, M4))))
set_option maxRecDepth 20000 in
theorem t_Paths_layRow {G : GT} {d : Nat} {a1 : Int32} {M : AM} {Q : AM → Option Value → Prop} {r : Int32} {M' : AM} (hW : WT M)  (hf : f_Paths_layRow a1 M = some (r, M')) (k : WT M' → Q M' (some (.int r)))  : Cal G (d + 1) 148 [.ref 92, .int a1] M Q := by
  refine A_enter ml_148 rfl ?_
  refine P_aload_n d_148_0 rfl ?_
  refine A_gF d_148_1 cn_148 fk_CordLoft_Paths_11 ft_4_0 k_92 hW ?_
  refine P_iload_n d_148_4 rfl ?_
  refine A_iald d_148_5 k_93 l_93 hW hf (fun hf => ?_)
  refine A_istore_n d_148_6 ml_148 rfl rfl ?_
  refine P_aload_n d_148_7 rfl ?_
  refine P_iload_n d_148_8 rfl ?_
  refine A_iconst d_148_9 ic_0 ?_
  refine A_max d_148_10 cn_148 mk_CordLoft_Paths_66 rfl ?_
  refine A_pI d_148_13 cn_148 fp_CordLoft_Paths_32 k_92 hW hf (fun hW hf => ?_)
  refine P_iload_n d_148_16 rfl ?_
  refine A_istore_n d_148_17 ml_148 rfl rfl ?_
  refine P_aload_n d_148_18 rfl ?_
  refine A_gI d_148_19 cn_148 fk_CordLoft_Paths_32 k_92 hW ?_
  refine A_iconst d_148_22 ic_1 ?_
  refine P_isub d_148_23 ?_
  refine A_istore d_148_24 ml_148 rfl rfl ?_
  obtain ⟨y3, M4, hl, hf⟩ := bnd_some hf
  refine P_fgt [true, false, true, true, true] ?_
  refine t_Paths_layRow_l26 (fun hW => ?_)  fu _ _ _ hW  hl
  refine P_iload_n d_148_57 rfl ?_
  exact A_iret d_148_58 mr_148 hW hf k
def f_C_steady (a1 : Int32) (M : AM) : Option (Int32 × AM) :=
  bnd (f_Paths_clearRow  M) (fun r1 M2 => ckK (gR M2 0 3) 5 (bnd (f_Plan_hasPicture (gR M2 0 3) a1 M2) (fun r4 M5 => if r4 = 0 then some ((-1), M5) else ckK (gR M5 0 3) 5 (bnd (f_Acts_current  M5) (fun r7 M8 => bnd (f_Paths_spread (gR M5 0 3) r7 M8) (fun r9 M10 => bnd (f_Paths_layRow a1 M10) (fun r11 M12 => some (r11, M12))))))))
set_option maxRecDepth 20000 in
theorem t_C_steady {G : GT} {d : Nat} {a1 : Int32} {M : AM} {Q : AM → Option Value → Prop} {r : Int32} {M' : AM} (hW : WT M)  (hf : f_C_steady a1 M = some (r, M')) (k : WT M' → Q M' (some (.int r)))  : Cal G (d + 2) 145 [.ref 0, .int a1] M Q := by
  refine A_enter ml_145 rfl ?_
  refine P_aload_n d_145_0 rfl ?_
  refine A_gF d_145_1 cn_145 fk_CordLoft_74 ft_12_10 k_0 hW ?_
  refine A_V0 d_145_4 vk_145_126 ml_82 rfl k_92 hW rfl hf (fun r1 M2 hc hf => t_Paths_clearRow hW  hc (fun hW => ?_))
  refine P_aload_n d_145_7 rfl ?_
  refine A_gM d_145_8 cn_145 fk_CordLoft_35 k_0 hW hf (fun hk3 hf => ?_)
  refine P_iload_n d_145_11 rfl ?_
  refine A_V1 d_145_12 vk_145_203 ml_114 rfl hk3 hW rfl hf (fun r4 M5 hc hf => t_Plan_hasPicture hW hk3 hc (fun hW hb5 => ?_))
  refine A_if_ne (tgt := 20) d_145_15 rfl hf (fun hf => ?_) (fun hf => ?_)
  · refine P_aload_n d_145_20 rfl ?_
    refine A_gF d_145_21 cn_145 fk_CordLoft_74 ft_12_10 k_0 hW ?_
    refine P_aload_n d_145_24 rfl ?_
    refine A_gM d_145_25 cn_145 fk_CordLoft_35 k_0 hW hf (fun hk6 hf => ?_)
    refine P_aload_n d_145_28 rfl ?_
    refine A_gF d_145_29 cn_145 fk_CordLoft_45 ft_12_5 k_0 hW ?_
    refine A_V0 d_145_32 vk_145_114 ml_78 rfl k_38 hW rfl hf (fun r7 M8 hc hf => t_Acts_current hW  hc (fun hW hb8 => ?_))
    refine A_V2 d_145_35 vk_145_252 ml_146 rfl k_92 hW rfl hf (fun r9 M10 hc hf => t_Paths_spread hW hk6 hb8 hc (fun hW => ?_))
    refine P_aload_n d_145_38 rfl ?_
    refine A_gF d_145_39 cn_145 fk_CordLoft_74 ft_12_10 k_0 hW ?_
    refine P_iload_n d_145_42 rfl ?_
    refine A_V1 d_145_43 vk_145_256 ml_148 rfl k_92 hW rfl hf (fun r11 M12 hc hf => t_Paths_layRow hW  hc (fun hW => ?_))
    exact A_iret d_145_46 mr_145 hW hf k
  · refine A_iconst d_145_18 ic_m1 ?_
    exact A_iret d_145_19 mr_145 hW hf k
def f_C_rows (a1 : Int32) (M : AM) : Option (Int32 × AM) :=
  ckK (gR M 0 3) 5 (bnd (f_Plan_hasPicture (gR M 0 3) a1 M) (fun r2 M3 => if r2 = 0 then some (0, M3) else ckK (gR M3 0 3) 5 (bnd (f_Acts_current  M3) (fun r5 M6 => bnd (f_Paths_spread (gR M3 0 3) r5 M6) (fun r7 M8 => ald 256 M8 97 a1 (fun x9 => some (x9, M8)))))))
set_option maxRecDepth 20000 in
theorem t_C_rows {G : GT} {d : Nat} {a1 : Int32} {M : AM} {Q : AM → Option Value → Prop} {r : Int32} {M' : AM} (hW : WT M)  (hf : f_C_rows a1 M = some (r, M')) (k : WT M' → Q M' (some (.int r)))  : Cal G (d + 2) 149 [.ref 0, .int a1] M Q := by
  refine A_enter ml_149 rfl ?_
  refine P_aload_n d_149_0 rfl ?_
  refine A_gM d_149_1 cn_149 fk_CordLoft_35 k_0 hW hf (fun hk1 hf => ?_)
  refine P_iload_n d_149_4 rfl ?_
  refine A_V1 d_149_5 vk_149_203 ml_114 rfl hk1 hW rfl hf (fun r2 M3 hc hf => t_Plan_hasPicture hW hk1 hc (fun hW hb3 => ?_))
  refine A_if_ne (tgt := 13) d_149_8 rfl hf (fun hf => ?_) (fun hf => ?_)
  · refine P_aload_n d_149_13 rfl ?_
    refine A_gF d_149_14 cn_149 fk_CordLoft_74 ft_12_10 k_0 hW ?_
    refine P_aload_n d_149_17 rfl ?_
    refine A_gM d_149_18 cn_149 fk_CordLoft_35 k_0 hW hf (fun hk4 hf => ?_)
    refine P_aload_n d_149_21 rfl ?_
    refine A_gF d_149_22 cn_149 fk_CordLoft_45 ft_12_5 k_0 hW ?_
    refine A_V0 d_149_25 vk_149_114 ml_78 rfl k_38 hW rfl hf (fun r5 M6 hc hf => t_Acts_current hW  hc (fun hW hb6 => ?_))
    refine A_V2 d_149_28 vk_149_252 ml_146 rfl k_92 hW rfl hf (fun r7 M8 hc hf => t_Paths_spread hW hk4 hb6 hc (fun hW => ?_))
    refine P_aload_n d_149_31 rfl ?_
    refine A_gF d_149_32 cn_149 fk_CordLoft_74 ft_12_10 k_0 hW ?_
    refine A_gF d_149_35 cn_149 fk_CordLoft_259 ft_4_5 k_92 hW ?_
    refine P_iload_n d_149_38 rfl ?_
    refine A_iald d_149_39 k_97 l_97 hW hf (fun hf => ?_)
    exact A_iret d_149_40 mr_149 hW hf k
  · refine A_iconst d_149_11 ic_0 ?_
    exact A_iret d_149_12 mr_149 hW hf k
def f_Sets_valueBehind_j83 (rec : Int32 → AM → Option (Unit × AM)) (v1 : Nat) (v2 : Nat) (v3 : Int32) (v4 : Int32) (s1 : Int32) (M : AM) : Option (Unit × AM) :=
  bnd (f_Best_offer s1 v4 M) (fun r1 M2 => rec (v4 + 1) M2)
set_option maxRecDepth 20000 in
theorem t_Sets_valueBehind_j83 {G : GT} {d : Nat} {v1 : Nat} {v2 : Nat} {v3 : Int32} {v4 : Int32} {s1 : Int32} {M : AM} {Q : AM → Option Value → Prop} {yo : Unit} {Mo : AM} {rec : Int32 → AM → Option (Unit × AM)} (hrec : ∀ (v4 : Int32) (M : AM), WT M → rec v4 M = some (yo, Mo) → PW G (d + 1) 152 10 [.ref 86, .ref v1, .ref v2, .int v3, .int v4, ux, ux] [] M 0 0 Q) (k1 : WT Mo → PW G (d + 1) 152 94 [.ref 86, ux, ux, ux, ux, ux, ux] [] Mo 0 0 Q) (hW : WT M) (hv1 : kd0 v1 = 5) (hv2 : kd0 v2 = 9) (hf : f_Sets_valueBehind_j83 rec v1 v2 v3 v4 s1 M = some (yo, Mo)) : PW G (d + 1) 152 83 [.ref 86, .ref v1, .ref v2, .int v3, .int v4, ux, ux] [.int s1, .ref 87] M 0 0 Q := by
  refine P_iload d_152_83 rfl ?_
  refine A_V2 d_152_85 vk_152_58 ml_121 rfl k_87 hW rfl hf (fun r1 M2 hc hf => t_Best_offer hW  hc (fun hW => ?_))
  refine A_iinc d_152_88 ic_1 rfl ml_152 rfl rfl ?_
  refine P_goto (tgt := 10) d_152_91 rfl ?_
  exact hrec _ _ hW  hf
def f_Sets_valueBehind_j59 (rec : Int32 → AM → Option (Unit × AM)) (v1 : Nat) (v2 : Nat) (v3 : Int32) (v4 : Int32) (v5 : Int32) (s0 : Int32) (M : AM) : Option (Unit × AM) :=
  if s0 = 0 then ald 256 M 88 (v3 ||| v5) (fun x1 => f_Sets_valueBehind_j83 rec v1 v2 v3 v4 x1 M) else f_Sets_valueBehind_j83 rec v1 v2 v3 v4 (-1) M
set_option maxRecDepth 20000 in
theorem t_Sets_valueBehind_j59 {G : GT} {d : Nat} {v1 : Nat} {v2 : Nat} {v3 : Int32} {v4 : Int32} {v5 : Int32} {s0 : Int32} {M : AM} {Q : AM → Option Value → Prop} {yo : Unit} {Mo : AM} {rec : Int32 → AM → Option (Unit × AM)} (hrec : ∀ (v4 : Int32) (M : AM), WT M → rec v4 M = some (yo, Mo) → PW G (d + 1) 152 10 [.ref 86, .ref v1, .ref v2, .int v3, .int v4, ux, ux] [] M 0 0 Q) (k1 : WT Mo → PW G (d + 1) 152 94 [.ref 86, ux, ux, ux, ux, ux, ux] [] Mo 0 0 Q) (hW : WT M) (hv1 : kd0 v1 = 5) (hv2 : kd0 v2 = 9) (hf : f_Sets_valueBehind_j59 rec v1 v2 v3 v4 v5 s0 M = some (yo, Mo)) : PW G (d + 1) 152 59 [.ref 86, .ref v1, .ref v2, .int v3, .int v4, .int v5, ux] [.int s0] M 0 0 Q := by
  refine A_istore d_152_59 ml_152 rfl rfl ?_
  refine P_aload_n d_152_61 rfl ?_
  refine A_gF d_152_62 cn_152 fk_CordLoft_Sets_12 ft_7_0 k_86 hW ?_
  refine P_iload d_152_65 rfl ?_
  refine A_if_eq (tgt := 74) d_152_67 rfl hf (fun hf => ?_) (fun hf => ?_)
  · refine P_aload_n d_152_74 rfl ?_
    refine A_gF d_152_75 cn_152 fk_CordLoft_Sets_20 ft_7_1 k_86 hW ?_
    refine P_iload_n d_152_78 rfl ?_
    refine P_iload d_152_79 rfl ?_
    refine P_ior d_152_81 ?_
    refine A_iald d_152_82 k_88 l_88 hW hf (fun hf => ?_)
    refine P_fgt [true, true, true, true, true, false, false] ?_
    exact t_Sets_valueBehind_j83 hrec k1 hW hv1 hv2 hf
  · refine A_iconst d_152_70 ic_m1 ?_
    refine P_goto (tgt := 83) d_152_71 rfl ?_
    refine P_fgt [true, true, true, true, true, false, false] ?_
    exact t_Sets_valueBehind_j83 hrec k1 hW hv1 hv2 hf
def f_Sets_valueBehind_b10 (rec : Int32 → AM → Option (Unit × AM)) (v1 : Nat) (v2 : Nat) (v3 : Int32) (v4 : Int32) (M : AM) : Option (Unit × AM) :=
  if (gI M v1 6) ≤ v4 then some ((), M) else if ((v3 ||| (gI M v2 1)) &&& ((1 : Int32) <<< (v4 &&& 31))) = 0 then ald 256 M (v1 + 8) (v3 ||| ((1 : Int32) <<< (v4 &&& 31))) (fun x1 => if ((gI M v2 0) ^^^ x1) = 0 then f_Sets_valueBehind_j59 rec v1 v2 v3 v4 ((1 : Int32) <<< (v4 &&& 31)) 1 M else f_Sets_valueBehind_j59 rec v1 v2 v3 v4 ((1 : Int32) <<< (v4 &&& 31)) 0 M) else rec (v4 + 1) M
def f_Sets_valueBehind_l10 (v1 : Nat) (v2 : Nat) (v3 : Int32) : Nat → Int32 → AM → Option (Unit × AM)
  | 0, _, _ => none
  | n + 1, v4, M => f_Sets_valueBehind_b10 (f_Sets_valueBehind_l10 v1 v2 v3 n) v1 v2 v3 v4 M
set_option maxRecDepth 20000 in
theorem t_Sets_valueBehind_b10 {G : GT} {d : Nat} {v1 : Nat} {v2 : Nat} {v3 : Int32} {v4 : Int32} {M : AM} {Q : AM → Option Value → Prop} {yo : Unit} {Mo : AM} {rec : Int32 → AM → Option (Unit × AM)} (hrec : ∀ (v4 : Int32) (M : AM), WT M → rec v4 M = some (yo, Mo) → PW G (d + 1) 152 10 [.ref 86, .ref v1, .ref v2, .int v3, .int v4, ux, ux] [] M 0 0 Q) (k1 : WT Mo → PW G (d + 1) 152 94 [.ref 86, ux, ux, ux, ux, ux, ux] [] Mo 0 0 Q) (hW : WT M) (hv1 : kd0 v1 = 5) (hv2 : kd0 v2 = 9)  (hf : f_Sets_valueBehind_b10 rec v1 v2 v3 v4 M = some (yo, Mo)) : PW G (d + 1) 152 10 [.ref 86, .ref v1, .ref v2, .int v3, .int v4, ux, ux] [] M 0 0 Q := by
  refine P_iload d_152_10 rfl ?_
  refine P_aload_n d_152_12 rfl ?_
  refine A_gI d_152_13 cn_152 fk_CordLoft_Sets_74 hv1 hW ?_
  refine A_icmp_ge (tgt := 94) d_152_16 rfl hf (fun hf => ?_) (fun hf => ?_)
  · refine P_fgt [true, false, false, false, false, false, false] ?_
    cases hf
    exact k1 hW 
  · refine A_iconst d_152_19 ic_1 ?_
    refine P_iload d_152_20 rfl ?_
    refine P_ishl d_152_22 ?_
    refine A_istore d_152_23 ml_152 rfl rfl ?_
    refine P_iload_n d_152_25 rfl ?_
    refine P_aload_n d_152_26 rfl ?_
    refine A_gI d_152_27 cn_152 fk_CordLoft_Sets_37 hv2 hW ?_
    refine P_ior d_152_30 ?_
    refine P_iload d_152_31 rfl ?_
    refine P_iand d_152_33 ?_
    refine A_if_ne (tgt := 88) d_152_34 rfl hf (fun hf => ?_) (fun hf => ?_)
    · refine A_iinc d_152_88 ic_1 rfl ml_152 rfl rfl ?_
      refine P_goto (tgt := 10) d_152_91 rfl ?_
      refine P_fgt [true, true, true, true, true, false, false] ?_
      exact hrec _ _ hW  hf
    · refine P_aload_n d_152_37 rfl ?_
      refine A_gI d_152_38 cn_152 fk_CordLoft_Sets_43 hv2 hW ?_
      refine P_aload_n d_152_41 rfl ?_
      refine A_gFr d_152_42 cn_152 fk_CordLoft_Sets_46 ft_5_10 hv1 hW ?_
      refine P_iload_n d_152_45 rfl ?_
      refine P_iload d_152_46 rfl ?_
      refine P_ior d_152_48 ?_
      refine A_iald d_152_49 (kr_5_8 hv1) (lr_5_8 hv1) hW hf (fun hf => ?_)
      refine P_ixor d_152_50 ?_
      refine A_if_ne (tgt := 58) d_152_51 rfl hf (fun hf => ?_) (fun hf => ?_)
      · refine A_iconst d_152_58 ic_0 ?_
        exact t_Sets_valueBehind_j59 hrec k1 hW hv1 hv2 hf
      · refine A_iconst d_152_54 ic_1 ?_
        refine P_goto (tgt := 59) d_152_55 rfl ?_
        exact t_Sets_valueBehind_j59 hrec k1 hW hv1 hv2 hf
theorem t_Sets_valueBehind_l10 {G : GT} {d : Nat} {v1 : Nat} {v2 : Nat} {v3 : Int32} {Q : AM → Option Value → Prop} {yo : Unit} {Mo : AM} (k1 : WT Mo → PW G (d + 1) 152 94 [.ref 86, ux, ux, ux, ux, ux, ux] [] Mo 0 0 Q) (hv1 : kd0 v1 = 5) (hv2 : kd0 v2 = 9) : ∀ (z : Nat) (v4 : Int32) (M : AM), WT M → f_Sets_valueBehind_l10 v1 v2 v3 z v4 M = some (yo, Mo) → PW G (d + 1) 152 10 [.ref 86, .ref v1, .ref v2, .int v3, .int v4, ux, ux] [] M 0 0 Q := by
  intro z
  induction z with
  | zero => intro v4 M hW hf; cases hf
  | succ z ih => intro v4 M hW hf; exact t_Sets_valueBehind_b10 (fun v4 M hW hf => ih v4 M hW hf) k1 hW hv1 hv2  hf
def f_Sets_valueBehind (a1 : Nat) (a2 : Nat) (a3 : Int32) (M : AM) : Option (Int32 × AM) :=
  bnd (f_Best_clear  M) (fun r1 M2 => bnd (f_Sets_valueBehind_l10 a1 a2 a3 fu 0 M2) (fun y3 M4 => wI M4 86 5 (gI M4 87 1) (fun M5 => if 0 ≤ (gI M5 87 1) then some (-(gI M5 87 0), M5) else some (0, M5))))
set_option maxRecDepth 20000 in
theorem t_Sets_valueBehind {G : GT} {d : Nat} {a1 : Nat} {a2 : Nat} {a3 : Int32} {M : AM} {Q : AM → Option Value → Prop} {r : Int32} {M' : AM} (hW : WT M) (ha1 : kd0 a1 = 5) (ha2 : kd0 a2 = 9) (hf : f_Sets_valueBehind a1 a2 a3 M = some (r, M')) (k : WT M' → Q M' (some (.int r)))  : Cal G (d + 1) 152 [.ref 86, .ref a1, .ref a2, .int a3] M Q := by
  refine A_enter ml_152 rfl ?_
  refine P_aload_n d_152_0 rfl ?_
  refine A_gF d_152_1 cn_152 fk_CordLoft_Sets_12 ft_7_0 k_86 hW ?_
  refine A_V0 d_152_4 vk_152_49 ml_120 rfl k_87 hW rfl hf (fun r1 M2 hc hf => t_Best_clear hW  hc (fun hW => ?_))
  refine A_iconst d_152_7 ic_0 ?_
  refine A_istore d_152_8 ml_152 rfl rfl ?_
  obtain ⟨y3, M4, hl, hf⟩ := bnd_some hf
  refine t_Sets_valueBehind_l10 (fun hW => ?_) ha1 ha2 fu _ _ hW  hl
  refine P_aload_n d_152_94 rfl ?_
  refine P_aload_n d_152_95 rfl ?_
  refine A_gF d_152_96 cn_152 fk_CordLoft_Sets_12 ft_7_0 k_86 hW ?_
  refine A_gI d_152_99 cn_152 fk_CordLoft_Sets_62 k_87 hW ?_
  refine A_pI d_152_102 cn_152 fp_CordLoft_Sets_90 k_86 hW hf (fun hW hf => ?_)
  refine P_aload_n d_152_105 rfl ?_
  refine A_gF d_152_106 cn_152 fk_CordLoft_Sets_12 ft_7_0 k_86 hW ?_
  refine A_gI d_152_109 cn_152 fk_CordLoft_Sets_62 k_87 hW ?_
  refine A_if_ge (tgt := 119) d_152_112 rfl hf (fun hf => ?_) (fun hf => ?_)
  · refine P_aload_n d_152_119 rfl ?_
    refine A_gF d_152_120 cn_152 fk_CordLoft_Sets_12 ft_7_0 k_86 hW ?_
    refine A_gI d_152_123 cn_152 fk_CordLoft_Sets_97 k_87 hW ?_
    refine P_ineg d_152_126 ?_
    exact A_iret d_152_127 mr_152 hW hf k
  · refine A_iconst d_152_115 ic_0 ?_
    refine P_goto (tgt := 127) d_152_116 rfl ?_
    exact A_iret d_152_127 mr_152 hW hf k
def f_Sets_play_b20 (rec : Int32 → AM → Option (Unit × AM)) (v1 : Nat) (v2 : Nat) (v3 : Int32) (v4 : Int32) (M : AM) : Option (Unit × AM) :=
  if v4 < 0 then some ((), M) else if (v4 &&& (v3 ^^^ (-1))) = 0 then bnd (f_Sets_valueBehind v1 v2 v4 M) (fun r1 M2 => ast 256 M2 88 v4 r1 (fun M3 => rec (v4 + (-1)) M3)) else rec (v4 + (-1)) M
def f_Sets_play_l20 (v1 : Nat) (v2 : Nat) (v3 : Int32) : Nat → Int32 → AM → Option (Unit × AM)
  | 0, _, _ => none
  | n + 1, v4, M => f_Sets_play_b20 (f_Sets_play_l20 v1 v2 v3 n) v1 v2 v3 v4 M
set_option maxRecDepth 20000 in
theorem t_Sets_play_b20 {G : GT} {d : Nat} {v1 : Nat} {v2 : Nat} {v3 : Int32} {v4 : Int32} {M : AM} {Q : AM → Option Value → Prop} {yo : Unit} {Mo : AM} {rec : Int32 → AM → Option (Unit × AM)} (hrec : ∀ (v4 : Int32) (M : AM), WT M → rec v4 M = some (yo, Mo) → PW G (d + 2) 151 20 [.ref 86, .ref v1, .ref v2, .int v3, .int v4] [] M 0 0 Q) (k1 : WT Mo → PW G (d + 2) 151 55 [.ref 86, ux, ux, ux, ux] [] Mo 0 0 Q) (hW : WT M) (hv1 : kd0 v1 = 5) (hv2 : kd0 v2 = 9)  (hf : f_Sets_play_b20 rec v1 v2 v3 v4 M = some (yo, Mo)) : PW G (d + 2) 151 20 [.ref 86, .ref v1, .ref v2, .int v3, .int v4] [] M 0 0 Q := by
  refine P_iload d_151_20 rfl ?_
  refine A_if_lt (tgt := 55) d_151_22 rfl hf (fun hf => ?_) (fun hf => ?_)
  · refine P_fgt [true, false, false, false, false] ?_
    cases hf
    exact k1 hW 
  · refine P_iload d_151_25 rfl ?_
    refine P_iload_n d_151_27 rfl ?_
    refine A_iconst d_151_28 ic_m1 ?_
    refine P_ixor d_151_29 ?_
    refine P_iand d_151_30 ?_
    refine A_if_ne (tgt := 49) d_151_31 rfl hf (fun hf => ?_) (fun hf => ?_)
    · refine A_iinc d_151_49 ic_m1 rfl ml_151 rfl rfl ?_
      refine P_goto (tgt := 20) d_151_52 rfl ?_
      exact hrec _ _ hW  hf
    · refine P_aload_n d_151_34 rfl ?_
      refine A_gF d_151_35 cn_151 fk_CordLoft_Sets_20 ft_7_1 k_86 hW ?_
      refine P_iload d_151_38 rfl ?_
      refine P_aload_n d_151_40 rfl ?_
      refine P_aload_n d_151_41 rfl ?_
      refine P_aload_n d_151_42 rfl ?_
      refine P_iload d_151_43 rfl ?_
      refine A_V3 d_151_45 vk_151_93 ml_152 rfl k_86 hW rfl hf (fun r1 M2 hc hf => t_Sets_valueBehind hW hv1 hv2 hc (fun hW => ?_))
      refine A_iast d_151_48 k_88 l_88 hW hf (fun hW hf => ?_)
      refine A_iinc d_151_49 ic_m1 rfl ml_151 rfl rfl ?_
      refine P_goto (tgt := 20) d_151_52 rfl ?_
      exact hrec _ _ hW  hf
theorem t_Sets_play_l20 {G : GT} {d : Nat} {v1 : Nat} {v2 : Nat} {v3 : Int32} {Q : AM → Option Value → Prop} {yo : Unit} {Mo : AM} (k1 : WT Mo → PW G (d + 2) 151 55 [.ref 86, ux, ux, ux, ux] [] Mo 0 0 Q) (hv1 : kd0 v1 = 5) (hv2 : kd0 v2 = 9) : ∀ (z : Nat) (v4 : Int32) (M : AM), WT M → f_Sets_play_l20 v1 v2 v3 z v4 M = some (yo, Mo) → PW G (d + 2) 151 20 [.ref 86, .ref v1, .ref v2, .int v3, .int v4] [] M 0 0 Q := by
  intro z
  induction z with
  | zero => intro v4 M hW hf; cases hf
  | succ z ih => intro v4 M hW hf; exact t_Sets_play_b20 (fun v4 M hW hf => ih v4 M hW hf) k1 hW hv1 hv2  hf
def f_Sets_play (a1 : Nat) (a2 : Nat) (M : AM) : Option (Int32 × AM) :=
  bnd (f_Plan_allCords a1 M) (fun r1 M2 => wI M2 86 5 (-1) (fun M3 => bnd (f_Sets_play_l20 a1 a2 (r1 &&& ((gI M2 a2 1) ^^^ (-1))) fu (r1 &&& ((gI M2 a2 1) ^^^ (-1))) M3) (fun y4 M5 => ald 256 M5 88 0 (fun x6 => some (x6, M5)))))
set_option maxRecDepth 20000 in
theorem t_Sets_play {G : GT} {d : Nat} {a1 : Nat} {a2 : Nat} {M : AM} {Q : AM → Option Value → Prop} {r : Int32} {M' : AM} (hW : WT M) (ha1 : kd0 a1 = 5) (ha2 : kd0 a2 = 9) (hf : f_Sets_play a1 a2 M = some (r, M')) (k : WT M' → Q M' (some (.int r)))  : Cal G (d + 2) 151 [.ref 86, .ref a1, .ref a2] M Q := by
  refine A_enter ml_151 rfl ?_
  refine P_aload_n d_151_0 rfl ?_
  refine A_V0 d_151_1 vk_151_33 ml_117 rfl ha1 hW rfl hf (fun r1 M2 hc hf => t_Plan_allCords hW ha1 hc (fun hW => ?_))
  refine P_aload_n d_151_4 rfl ?_
  refine A_gI d_151_5 cn_151 fk_CordLoft_Sets_37 ha2 hW ?_
  refine A_iconst d_151_8 ic_m1 ?_
  refine P_ixor d_151_9 ?_
  refine P_iand d_151_10 ?_
  refine A_istore_n d_151_11 ml_151 rfl rfl ?_
  refine P_aload_n d_151_12 rfl ?_
  refine A_iconst d_151_13 ic_m1 ?_
  refine A_pI d_151_14 cn_151 fp_CordLoft_Sets_90 k_86 hW hf (fun hW hf => ?_)
  refine P_iload_n d_151_17 rfl ?_
  refine A_istore d_151_18 ml_151 rfl rfl ?_
  obtain ⟨y4, M5, hl, hf⟩ := bnd_some hf
  refine t_Sets_play_l20 (fun hW => ?_) ha1 ha2 fu _ _ hW  hl
  refine P_aload_n d_151_55 rfl ?_
  refine A_gF d_151_56 cn_151 fk_CordLoft_Sets_20 ft_7_1 k_86 hW ?_
  refine A_iconst d_151_59 ic_0 ?_
  refine A_iald d_151_60 k_88 l_88 hW hf (fun hf => ?_)
  exact A_iret d_151_61 mr_151 hW hf k
def f_C_game (a1 : Int32) (M : AM) : Option (Int32 × AM) :=
  if a1 < 0 then some ((-1), M) else if a1 ≤ 1 then ckK (gR M 0 3) 5 (bnd (f_Acts_current  M) (fun r2 M3 => bnd (f_Sets_play (gR M 0 3) r2 M3) (fun r4 M5 => if a1 = 0 then some (r4, M5) else some (gI M5 86 5, M5)))) else some ((-1), M)
set_option maxRecDepth 20000 in
theorem t_C_game {G : GT} {d : Nat} {a1 : Int32} {M : AM} {Q : AM → Option Value → Prop} {r : Int32} {M' : AM} (hW : WT M)  (hf : f_C_game a1 M = some (r, M')) (k : WT M' → Q M' (some (.int r)))  : Cal G (d + 3) 150 [.ref 0, .int a1] M Q := by
  refine A_enter ml_150 rfl ?_
  refine P_iload_n d_150_0 rfl ?_
  refine A_if_lt (tgt := 9) d_150_1 rfl hf (fun hf => ?_) (fun hf => ?_)
  · refine A_iconst d_150_9 ic_m1 ?_
    exact A_iret d_150_10 mr_150 hW hf k
  · refine P_iload_n d_150_4 rfl ?_
    refine A_iconst d_150_5 ic_1 ?_
    refine A_icmp_le (tgt := 11) d_150_6 rfl hf (fun hf => ?_) (fun hf => ?_)
    · refine P_aload_n d_150_11 rfl ?_
      refine A_gF d_150_12 cn_150 fk_CordLoft_67 ft_12_9 k_0 hW ?_
      refine P_aload_n d_150_15 rfl ?_
      refine A_gM d_150_16 cn_150 fk_CordLoft_35 k_0 hW hf (fun hk1 hf => ?_)
      refine P_aload_n d_150_19 rfl ?_
      refine A_gF d_150_20 cn_150 fk_CordLoft_45 ft_12_5 k_0 hW ?_
      refine A_V0 d_150_23 vk_150_114 ml_78 rfl k_38 hW rfl hf (fun r2 M3 hc hf => t_Acts_current hW  hc (fun hW hb3 => ?_))
      refine A_V2 d_150_26 vk_150_262 ml_151 rfl k_86 hW rfl hf (fun r4 M5 hc hf => t_Sets_play hW hk1 hb3 hc (fun hW => ?_))
      refine A_istore_n d_150_29 ml_150 rfl rfl ?_
      refine P_iload_n d_150_30 rfl ?_
      refine A_if_ne (tgt := 38) d_150_31 rfl hf (fun hf => ?_) (fun hf => ?_)
      · refine P_aload_n d_150_38 rfl ?_
        refine A_gF d_150_39 cn_150 fk_CordLoft_67 ft_12_9 k_0 hW ?_
        refine A_gI d_150_42 cn_150 fk_CordLoft_265 k_86 hW ?_
        exact A_iret d_150_45 mr_150 hW hf k
      · refine P_iload_n d_150_34 rfl ?_
        refine P_goto (tgt := 45) d_150_35 rfl ?_
        exact A_iret d_150_45 mr_150 hW hf k
    · refine A_iconst d_150_9 ic_m1 ?_
      exact A_iret d_150_10 mr_150 hW hf k
def f_C_again_b40 (rec : Int32 → AM → Option ((Unit × AM) ⊕ (Int32 × AM))) (v1 : Int32) (v2 : Int32) (M : AM) : Option ((Unit × AM) ⊕ (Int32 × AM)) :=
  if 300 < v2 then some (.inl ((), M)) else ald 256 M 104 (gI M 81 0) (fun x1 => if x1 < 0 then ast 256 M 104 (gI M 81 0) v2 (fun M2 => ckK (gR M2 0 3) 5 (bnd (f_State_passDusk 81 (gR M2 0 3) 0 M2) (fun r4 M5 => rec (v2 + 1) M5))) else ald 256 M 104 (gI M 81 0) (fun x6 => bnd (f_C_either v1 v2 x6 M) (fun r7 M8 => some (.inr (r7, M8)))))
def f_C_again_l40 (v1 : Int32) : Nat → Int32 → AM → Option ((Unit × AM) ⊕ (Int32 × AM))
  | 0, _, _ => none
  | n + 1, v2, M => f_C_again_b40 (f_C_again_l40 v1 n) v1 v2 M
set_option maxRecDepth 20000 in
theorem t_C_again_b40 {G : GT} {d : Nat} {v1 : Int32} {v2 : Int32} {M : AM} {Q : AM → Option Value → Prop} {o : (Unit × AM) ⊕ (Int32 × AM)} {rec : Int32 → AM → Option ((Unit × AM) ⊕ (Int32 × AM))} (hrec : ∀ (v2 : Int32) (M : AM), WT M → rec v2 M = some o → PW G (d + 5) 153 40 [.ref 0, .int v1, .int v2, ux] [] M 0 0 Q) (k1 : ∀ (yo : Unit) (Mo : AM), o = .inl (yo, Mo) → WT Mo → PW G (d + 5) 153 101 [ux, ux, ux, ux] [] Mo 0 0 Q) (k2 : ∀ (r : Int32) (M' : AM), o = .inr (r, M') → WT M' → Q M' (some (.int r))) (hW : WT M)   (hf : f_C_again_b40 rec v1 v2 M = some o) : PW G (d + 5) 153 40 [.ref 0, .int v1, .int v2, ux] [] M 0 0 Q := by
  refine P_iload_n d_153_40 rfl ?_
  refine P_sipush d_153_41 si_300 ?_
  refine A_icmp_gt (tgt := 101) d_153_44 rfl hf (fun hf => ?_) (fun hf => ?_)
  · refine P_fgt [false, false, false, false] ?_
    cases hf
    exact k1 _ _ rfl hW 
  · refine P_aload_n d_153_47 rfl ?_
    refine A_gF d_153_48 cn_153 fk_CordLoft_52 ft_12_6 k_0 hW ?_
    refine A_gI d_153_51 cn_153 fk_CordLoft_140 k_81 hW ?_
    refine A_istore_n d_153_54 ml_153 rfl rfl ?_
    refine P_aload_n d_153_55 rfl ?_
    refine A_gF d_153_56 cn_153 fk_CordLoft_85 ft_12_12 k_0 hW ?_
    refine P_iload_n d_153_59 rfl ?_
    refine A_iald d_153_60 k_104 l_104 hW hf (fun hf => ?_)
    refine A_if_lt (tgt := 76) d_153_61 rfl hf (fun hf => ?_) (fun hf => ?_)
    · refine P_aload_n d_153_76 rfl ?_
      refine A_gF d_153_77 cn_153 fk_CordLoft_85 ft_12_12 k_0 hW ?_
      refine P_iload_n d_153_80 rfl ?_
      refine P_iload_n d_153_81 rfl ?_
      refine A_iast d_153_82 k_104 l_104 hW hf (fun hW hf => ?_)
      refine P_aload_n d_153_83 rfl ?_
      refine A_gF d_153_84 cn_153 fk_CordLoft_52 ft_12_6 k_0 hW ?_
      refine P_aload_n d_153_87 rfl ?_
      refine A_gM d_153_88 cn_153 fk_CordLoft_35 k_0 hW hf (fun hk3 hf => ?_)
      refine A_iconst d_153_91 ic_0 ?_
      refine A_V2 d_153_92 vk_153_188 ml_100 rfl k_81 hW rfl hf (fun r4 M5 hc hf => t_State_passDusk hW k_81 hk3 hc (fun hW => ?_))
      refine A_iinc d_153_95 ic_1 rfl ml_153 rfl rfl ?_
      refine P_goto (tgt := 40) d_153_98 rfl ?_
      refine P_fgt [true, true, true, false] ?_
      exact hrec _ _ hW  hf
    · refine P_iload_n d_153_64 rfl ?_
      refine P_iload_n d_153_65 rfl ?_
      refine P_aload_n d_153_66 rfl ?_
      refine A_gF d_153_67 cn_153 fk_CordLoft_85 ft_12_12 k_0 hW ?_
      refine P_iload_n d_153_70 rfl ?_
      refine A_iald d_153_71 k_104 l_104 hW hf (fun hf => ?_)
      refine A_S3 d_153_72 sk_153_132 ml_84 rfl rfl hf (fun r7 M8 hc hf => t_C_either hW  hc (fun hW => ?_))
      cases hf
      exact A_iret d_153_75 mr_153 hW rfl (fun hW => k2 _ _ rfl hW)
theorem t_C_again_l40 {G : GT} {d : Nat} {v1 : Int32} {Q : AM → Option Value → Prop} {o : (Unit × AM) ⊕ (Int32 × AM)} (k1 : ∀ (yo : Unit) (Mo : AM), o = .inl (yo, Mo) → WT Mo → PW G (d + 5) 153 101 [ux, ux, ux, ux] [] Mo 0 0 Q) (k2 : ∀ (r : Int32) (M' : AM), o = .inr (r, M') → WT M' → Q M' (some (.int r)))  : ∀ (z : Nat) (v2 : Int32) (M : AM), WT M → f_C_again_l40 v1 z v2 M = some o → PW G (d + 5) 153 40 [.ref 0, .int v1, .int v2, ux] [] M 0 0 Q := by
  intro z
  induction z with
  | zero => intro v2 M hW hf; cases hf
  | succ z ih => intro v2 M hW hf; exact t_C_again_b40 (fun v2 M hW hf => ih v2 M hW hf) k1 k2 hW   hf
def f_C_again_b2 (rec : Int32 → AM → Option (Unit × AM)) (v1 : Int32) (v2 : Int32) (M : AM) : Option (Unit × AM) :=
  if 256 ≤ v2 then some ((), M) else ast 256 M 104 v2 (-1) (fun M1 => rec (v2 + 1) M1)
def f_C_again_l2 (v1 : Int32) : Nat → Int32 → AM → Option (Unit × AM)
  | 0, _, _ => none
  | n + 1, v2, M => f_C_again_b2 (f_C_again_l2 v1 n) v1 v2 M
set_option maxRecDepth 20000 in
theorem t_C_again_b2 {G : GT} {d : Nat} {v1 : Int32} {v2 : Int32} {M : AM} {Q : AM → Option Value → Prop} {yo : Unit} {Mo : AM} {rec : Int32 → AM → Option (Unit × AM)} (hrec : ∀ (v2 : Int32) (M : AM), WT M → rec v2 M = some (yo, Mo) → PW G (d + 5) 153 2 [.ref 0, .int v1, .int v2, ux] [] M 0 0 Q) (k1 : WT Mo → PW G (d + 5) 153 24 [.ref 0, .int v1, ux, ux] [] Mo 0 0 Q) (hW : WT M)   (hf : f_C_again_b2 rec v1 v2 M = some (yo, Mo)) : PW G (d + 5) 153 2 [.ref 0, .int v1, .int v2, ux] [] M 0 0 Q := by
  refine P_iload_n d_153_2 rfl ?_
  refine P_aload_n d_153_3 rfl ?_
  refine A_gF d_153_4 cn_153 fk_CordLoft_85 ft_12_12 k_0 hW ?_
  refine A_alen (v := 256) 19 d_153_7 k_104 (by decide) (by decide) l_104 (by decide +kernel) hW ?_
  refine A_icmp_ge (tgt := 24) d_153_8 rfl hf (fun hf => ?_) (fun hf => ?_)
  · refine P_fgt [true, true, false, false] ?_
    cases hf
    exact k1 hW 
  · refine P_aload_n d_153_11 rfl ?_
    refine A_gF d_153_12 cn_153 fk_CordLoft_85 ft_12_12 k_0 hW ?_
    refine P_iload_n d_153_15 rfl ?_
    refine A_iconst d_153_16 ic_m1 ?_
    refine A_iast d_153_17 k_104 l_104 hW hf (fun hW hf => ?_)
    refine A_iinc d_153_18 ic_1 rfl ml_153 rfl rfl ?_
    refine P_goto (tgt := 2) d_153_21 rfl ?_
    exact hrec _ _ hW  hf
theorem t_C_again_l2 {G : GT} {d : Nat} {v1 : Int32} {Q : AM → Option Value → Prop} {yo : Unit} {Mo : AM} (k1 : WT Mo → PW G (d + 5) 153 24 [.ref 0, .int v1, ux, ux] [] Mo 0 0 Q)  : ∀ (z : Nat) (v2 : Int32) (M : AM), WT M → f_C_again_l2 v1 z v2 M = some (yo, Mo) → PW G (d + 5) 153 2 [.ref 0, .int v1, .int v2, ux] [] M 0 0 Q := by
  intro z
  induction z with
  | zero => intro v2 M hW hf; cases hf
  | succ z ih => intro v2 M hW hf; exact t_C_again_b2 (fun v2 M hW hf => ih v2 M hW hf) k1 hW   hf
def f_C_again (a1 : Int32) (M : AM) : Option (Int32 × AM) :=
  bnd (f_C_again_l2 a1 fu 0 M) (fun y1 M2 => bnd (f_Acts_current  M2) (fun r3 M4 => bnd (f_State_become 81 r3 M4) (fun r5 M6 => bn2 (f_C_again_l40 a1 fu 0 M6) (fun y7 M8 => some ((-1), M8)))))
set_option maxRecDepth 20000 in
theorem t_C_again {G : GT} {d : Nat} {a1 : Int32} {M : AM} {Q : AM → Option Value → Prop} {r : Int32} {M' : AM} (hW : WT M)  (hf : f_C_again a1 M = some (r, M')) (k : WT M' → Q M' (some (.int r)))  : Cal G (d + 5) 153 [.ref 0, .int a1] M Q := by
  refine A_enter ml_153 rfl ?_
  refine A_iconst d_153_0 ic_0 ?_
  refine A_istore_n d_153_1 ml_153 rfl rfl ?_
  obtain ⟨y1, M2, hl, hf⟩ := bnd_some hf
  refine t_C_again_l2 (fun hW => ?_)  fu _ _ hW  hl
  refine P_aload_n d_153_24 rfl ?_
  refine A_gF d_153_25 cn_153 fk_CordLoft_52 ft_12_6 k_0 hW ?_
  refine P_aload_n d_153_28 rfl ?_
  refine A_gF d_153_29 cn_153 fk_CordLoft_45 ft_12_5 k_0 hW ?_
  refine A_V0 d_153_32 vk_153_114 ml_78 rfl k_38 hW rfl hf (fun r3 M4 hc hf => t_Acts_current hW  hc (fun hW hb4 => ?_))
  refine A_V1 d_153_35 vk_153_199 ml_95 rfl k_81 hW rfl hf (fun r5 M6 hc hf => t_State_become hW k_81 hb4 hc (fun hW => ?_))
  refine A_iconst d_153_38 ic_0 ?_
  refine A_istore_n d_153_39 ml_153 rfl rfl ?_
  obtain ⟨o, hl, hf⟩ := bn2_some hf
  refine t_C_again_l40 (o := o) (fun y7 M8 e hW => ?_) (fun r1 Mr e hW => ?_)  fu _ _ hW  hl
  · subst e
    change _ = some (r, M') at hf
    refine A_iconst d_153_101 ic_m1 ?_
    exact A_iret d_153_102 mr_153 hW hf k
  · subst e; cases hf; exact k hW
def f_C_pasts_b16 (rec : Int32 → Int32 → Int32 → AM → Option ((Int32 × Int32) × AM)) (v1 : Int32) (v2 : Nat) (v3 : Int32) (v4 : Int32) (v5 : Int32) (M : AM) : Option ((Int32 × Int32) × AM) :=
  ckK (gR M 0 3) 5 (bnd (f_Plan_allPictures (gR M 0 3) M) (fun r2 M3 => if r2 ≤ v5 then some ((v3, v4), M3) else ckK (gR M3 0 3) 5 (bnd (f_Plan_afterDusk (gR M3 0 3) v5 (gI M3 v2 3) M3) (fun r5 M6 => if r5 = (gI M6 v2 0) then if 0 ≤ v4 then rec (v3 + 1) v4 (v5 + 1) M6 else rec (v3 + 1) v5 (v5 + 1) M6 else rec v3 v4 (v5 + 1) M6))))
def f_C_pasts_l16 (v1 : Int32) (v2 : Nat) : Nat → Int32 → Int32 → Int32 → AM → Option ((Int32 × Int32) × AM)
  | 0, _, _, _, _ => none
  | n + 1, v3, v4, v5, M => f_C_pasts_b16 (f_C_pasts_l16 v1 v2 n) v1 v2 v3 v4 v5 M
set_option maxRecDepth 20000 in
theorem t_C_pasts_b16 {G : GT} {d : Nat} {v1 : Int32} {v2 : Nat} {v3 : Int32} {v4 : Int32} {v5 : Int32} {M : AM} {Q : AM → Option Value → Prop} {yo : Int32 × Int32} {Mo : AM} {rec : Int32 → Int32 → Int32 → AM → Option ((Int32 × Int32) × AM)} (hrec : ∀ (v3 : Int32) (v4 : Int32) (v5 : Int32) (M : AM), WT M → rec v3 v4 v5 M = some (yo, Mo) → PW G (d + 4) 154 16 [.ref 0, .int v1, .ref v2, .int v3, .int v4, .int v5] [] M 0 0 Q) (k1 : WT Mo → PW G (d + 4) 154 71 [ux, .int v1, ux, .int yo.1, .int yo.2, ux] [] Mo 0 0 Q) (hW : WT M) (hv2 : kd0 v2 = 9)  (hf : f_C_pasts_b16 rec v1 v2 v3 v4 v5 M = some (yo, Mo)) : PW G (d + 4) 154 16 [.ref 0, .int v1, .ref v2, .int v3, .int v4, .int v5] [] M 0 0 Q := by
  refine P_iload d_154_16 rfl ?_
  refine P_aload_n d_154_18 rfl ?_
  refine A_gM d_154_19 cn_154 fk_CordLoft_35 k_0 hW hf (fun hk1 hf => ?_)
  refine A_V0 d_154_22 vk_154_268 ml_115 rfl hk1 hW rfl hf (fun r2 M3 hc hf => t_Plan_allPictures hW hk1 hc (fun hW => ?_))
  refine A_icmp_ge (tgt := 71) d_154_25 rfl hf (fun hf => ?_) (fun hf => ?_)
  · refine P_fgt [false, true, false, true, true, false] ?_
    cases hf
    exact k1 hW 
  · refine P_aload_n d_154_28 rfl ?_
    refine A_gM d_154_29 cn_154 fk_CordLoft_35 k_0 hW hf (fun hk4 hf => ?_)
    refine P_iload d_154_32 rfl ?_
    refine P_aload_n d_154_34 rfl ?_
    refine A_gI d_154_35 cn_154 fk_CordLoft_185 hv2 hW ?_
    refine A_V2 d_154_38 vk_154_271 ml_101 rfl hk4 hW rfl hf (fun r5 M6 hc hf => t_Plan_afterDusk hW hk4 hc (fun hW => ?_))
    refine P_aload_n d_154_41 rfl ?_
    refine A_gI d_154_42 cn_154 fk_CordLoft_140 hv2 hW ?_
    refine A_icmp_ne (tgt := 65) d_154_45 rfl hf (fun hf => ?_) (fun hf => ?_)
    · refine A_iinc d_154_65 ic_1 rfl ml_154 rfl rfl ?_
      refine P_goto (tgt := 16) d_154_68 rfl ?_
      exact hrec _ _ _ _ hW  hf
    · refine A_iinc d_154_48 ic_1 rfl ml_154 rfl rfl ?_
      refine P_iload d_154_51 rfl ?_
      refine A_if_ge (tgt := 61) d_154_53 rfl hf (fun hf => ?_) (fun hf => ?_)
      · refine P_iload d_154_61 rfl ?_
        refine A_istore d_154_63 ml_154 rfl rfl ?_
        refine A_iinc d_154_65 ic_1 rfl ml_154 rfl rfl ?_
        refine P_goto (tgt := 16) d_154_68 rfl ?_
        exact hrec _ _ _ _ hW  hf
      · refine P_iload d_154_56 rfl ?_
        refine P_goto (tgt := 63) d_154_58 rfl ?_
        refine A_istore d_154_63 ml_154 rfl rfl ?_
        refine A_iinc d_154_65 ic_1 rfl ml_154 rfl rfl ?_
        refine P_goto (tgt := 16) d_154_68 rfl ?_
        exact hrec _ _ _ _ hW  hf
theorem t_C_pasts_l16 {G : GT} {d : Nat} {v1 : Int32} {v2 : Nat} {Q : AM → Option Value → Prop} {yo : Int32 × Int32} {Mo : AM} (k1 : WT Mo → PW G (d + 4) 154 71 [ux, .int v1, ux, .int yo.1, .int yo.2, ux] [] Mo 0 0 Q) (hv2 : kd0 v2 = 9) : ∀ (z : Nat) (v3 : Int32) (v4 : Int32) (v5 : Int32) (M : AM), WT M → f_C_pasts_l16 v1 v2 z v3 v4 v5 M = some (yo, Mo) → PW G (d + 4) 154 16 [.ref 0, .int v1, .ref v2, .int v3, .int v4, .int v5] [] M 0 0 Q := by
  intro z
  induction z with
  | zero => intro v3 v4 v5 M hW hf; cases hf
  | succ z ih => intro v3 v4 v5 M hW hf; exact t_C_pasts_b16 (fun v3 v4 v5 M hW hf => ih v3 v4 v5 M hW hf) k1 hW hv2  hf
def f_C_pasts (a1 : Int32) (M : AM) : Option (Int32 × AM) :=
  bnd (f_Acts_current  M) (fun r1 M2 => bnd (f_C_pasts_l16 a1 r1 fu 0 (-1) 0 M2) (fun y3 M4 => bnd (f_C_either a1 y3.1 y3.2 M4) (fun r5 M6 => some (r5, M6))))
set_option maxRecDepth 20000 in
theorem t_C_pasts {G : GT} {d : Nat} {a1 : Int32} {M : AM} {Q : AM → Option Value → Prop} {r : Int32} {M' : AM} (hW : WT M)  (hf : f_C_pasts a1 M = some (r, M')) (k : WT M' → Q M' (some (.int r)))  : Cal G (d + 4) 154 [.ref 0, .int a1] M Q := by
  refine A_enter ml_154 rfl ?_
  refine P_aload_n d_154_0 rfl ?_
  refine A_gF d_154_1 cn_154 fk_CordLoft_45 ft_12_5 k_0 hW ?_
  refine A_V0 d_154_4 vk_154_114 ml_78 rfl k_38 hW rfl hf (fun r1 M2 hc hf => t_Acts_current hW  hc (fun hW hb2 => ?_))
  refine A_astore_n d_154_7 ml_154 rfl rfl ?_
  refine A_iconst d_154_8 ic_0 ?_
  refine A_istore_n d_154_9 ml_154 rfl rfl ?_
  refine A_iconst d_154_10 ic_m1 ?_
  refine A_istore d_154_11 ml_154 rfl rfl ?_
  refine A_iconst d_154_13 ic_0 ?_
  refine A_istore d_154_14 ml_154 rfl rfl ?_
  obtain ⟨y3, M4, hl, hf⟩ := bnd_some hf
  refine t_C_pasts_l16 (fun hW => ?_) hb2 fu _ _ _ _ hW  hl
  refine P_iload_n d_154_71 rfl ?_
  refine P_iload_n d_154_72 rfl ?_
  refine P_iload d_154_73 rfl ?_
  refine A_S3 d_154_75 sk_154_132 ml_84 rfl rfl hf (fun r5 M6 hc hf => t_C_either hW  hc (fun hW => ?_))
  exact A_iret d_154_78 mr_154 hW hf k
def f_C_still_b15 (rec : Int32 → Int32 → AM → Option (Int32 × AM)) (v1 : Int32) (v2 : Int32) (v3 : Int32) (M : AM) : Option (Int32 × AM) :=
  ckK (gR M 0 3) 5 (bnd (f_Plan_allPictures (gR M 0 3) M) (fun r2 M3 => if r2 ≤ v3 then some (v2, M3) else ckK (gR M3 0 3) 5 (bnd (f_Plan_afterDusk (gR M3 0 3) v3 v1 M3) (fun r5 M6 => if r5 = v3 then rec (v2 + 1) (v3 + 1) M6 else rec v2 (v3 + 1) M6))))
def f_C_still_l15 (v1 : Int32) : Nat → Int32 → Int32 → AM → Option (Int32 × AM)
  | 0, _, _, _ => none
  | n + 1, v2, v3, M => f_C_still_b15 (f_C_still_l15 v1 n) v1 v2 v3 M
set_option maxRecDepth 20000 in
theorem t_C_still_b15 {G : GT} {d : Nat} {v1 : Int32} {v2 : Int32} {v3 : Int32} {M : AM} {Q : AM → Option Value → Prop} {yo : Int32} {Mo : AM} {rec : Int32 → Int32 → AM → Option (Int32 × AM)} (hrec : ∀ (v2 : Int32) (v3 : Int32) (M : AM), WT M → rec v2 v3 M = some (yo, Mo) → PW G (d + 4) 155 15 [.ref 0, .int v1, .int v2, .int v3] [] M 0 0 Q) (k1 : WT Mo → PW G (d + 4) 155 48 [ux, ux, .int yo, ux] [] Mo 0 0 Q) (hW : WT M)   (hf : f_C_still_b15 rec v1 v2 v3 M = some (yo, Mo)) : PW G (d + 4) 155 15 [.ref 0, .int v1, .int v2, .int v3] [] M 0 0 Q := by
  refine P_iload_n d_155_15 rfl ?_
  refine P_aload_n d_155_16 rfl ?_
  refine A_gM d_155_17 cn_155 fk_CordLoft_35 k_0 hW hf (fun hk1 hf => ?_)
  refine A_V0 d_155_20 vk_155_268 ml_115 rfl hk1 hW rfl hf (fun r2 M3 hc hf => t_Plan_allPictures hW hk1 hc (fun hW => ?_))
  refine A_icmp_ge (tgt := 48) d_155_23 rfl hf (fun hf => ?_) (fun hf => ?_)
  · refine P_fgt [false, false, true, false] ?_
    cases hf
    exact k1 hW 
  · refine P_aload_n d_155_26 rfl ?_
    refine A_gM d_155_27 cn_155 fk_CordLoft_35 k_0 hW hf (fun hk4 hf => ?_)
    refine P_iload_n d_155_30 rfl ?_
    refine P_iload_n d_155_31 rfl ?_
    refine A_V2 d_155_32 vk_155_271 ml_101 rfl hk4 hW rfl hf (fun r5 M6 hc hf => t_Plan_afterDusk hW hk4 hc (fun hW => ?_))
    refine P_iload_n d_155_35 rfl ?_
    refine A_icmp_ne (tgt := 42) d_155_36 rfl hf (fun hf => ?_) (fun hf => ?_)
    · refine A_iinc d_155_42 ic_1 rfl ml_155 rfl rfl ?_
      refine P_goto (tgt := 15) d_155_45 rfl ?_
      exact hrec _ _ _ hW  hf
    · refine A_iinc d_155_39 ic_1 rfl ml_155 rfl rfl ?_
      refine A_iinc d_155_42 ic_1 rfl ml_155 rfl rfl ?_
      refine P_goto (tgt := 15) d_155_45 rfl ?_
      exact hrec _ _ _ hW  hf
theorem t_C_still_l15 {G : GT} {d : Nat} {v1 : Int32} {Q : AM → Option Value → Prop} {yo : Int32} {Mo : AM} (k1 : WT Mo → PW G (d + 4) 155 48 [ux, ux, .int yo, ux] [] Mo 0 0 Q)  : ∀ (z : Nat) (v2 : Int32) (v3 : Int32) (M : AM), WT M → f_C_still_l15 v1 z v2 v3 M = some (yo, Mo) → PW G (d + 4) 155 15 [.ref 0, .int v1, .int v2, .int v3] [] M 0 0 Q := by
  intro z
  induction z with
  | zero => intro v2 v3 M hW hf; cases hf
  | succ z ih => intro v2 v3 M hW hf; exact t_C_still_b15 (fun v2 v3 M hW hf => ih v2 v3 M hW hf) k1 hW   hf
def f_C_still  (M : AM) : Option (Int32 × AM) :=
  bnd (f_Acts_current  M) (fun r1 M2 => bnd (f_C_still_l15 (gI M2 r1 3) fu 0 0 M2) (fun y3 M4 => some (y3, M4)))
set_option maxRecDepth 20000 in
theorem t_C_still {G : GT} {d : Nat}  {M : AM} {Q : AM → Option Value → Prop} {r : Int32} {M' : AM} (hW : WT M)  (hf : f_C_still  M = some (r, M')) (k : WT M' → Q M' (some (.int r)))  : Cal G (d + 4) 155 [.ref 0] M Q := by
  refine A_enter ml_155 rfl ?_
  refine P_aload_n d_155_0 rfl ?_
  refine A_gF d_155_1 cn_155 fk_CordLoft_45 ft_12_5 k_0 hW ?_
  refine A_V0 d_155_4 vk_155_114 ml_78 rfl k_38 hW rfl hf (fun r1 M2 hc hf => t_Acts_current hW  hc (fun hW hb2 => ?_))
  refine A_gI d_155_7 cn_155 fk_CordLoft_185 hb2 hW ?_
  refine A_istore_n d_155_10 ml_155 rfl rfl ?_
  refine A_iconst d_155_11 ic_0 ?_
  refine A_istore_n d_155_12 ml_155 rfl rfl ?_
  refine A_iconst d_155_13 ic_0 ?_
  refine A_istore_n d_155_14 ml_155 rfl rfl ?_
  obtain ⟨y3, M4, hl, hf⟩ := bnd_some hf
  refine t_C_still_l15 (fun hW => ?_)  fu _ _ _ hW  hl
  refine P_iload_n d_155_48 rfl ?_
  exact A_iret d_155_49 mr_155 hW hf k
def f_C_knot (a1 : Int32) (M : AM) : Option (Int32 × AM) :=
  bnd (f_C_isFree a1 M) (fun r1 M2 => if r1 = 0 then some ((-1), M2) else bnd (f_C_freeCords  M2) (fun r3 M4 => ckK (gR M4 0 3) 5 (bnd (f_Sets_reach (gR M4 0 3) r3 M4) (fun r6 M7 => ckK (gR M7 0 3) 5 (bnd (f_Sets_reach (gR M7 0 3) (r3 &&& (((1 : Int32) <<< (a1 &&& 31)) ^^^ (-1))) M7) (fun r9 M10 => some (r6 - r9, M10)))))))
set_option maxRecDepth 20000 in
theorem t_C_knot {G : GT} {d : Nat} {a1 : Int32} {M : AM} {Q : AM → Option Value → Prop} {r : Int32} {M' : AM} (hW : WT M)  (hf : f_C_knot a1 M = some (r, M')) (k : WT M' → Q M' (some (.int r)))  : Cal G (d + 2) 156 [.ref 0, .int a1] M Q := by
  refine A_enter ml_156 rfl ?_
  refine P_aload_n d_156_0 rfl ?_
  refine P_iload_n d_156_1 rfl ?_
  refine A_V1 d_156_2 vk_156_164 ml_91 rfl k_0 hW rfl hf (fun r1 M2 hc hf => t_C_isFree hW  hc (fun hW hb2 => ?_))
  refine A_if_ne (tgt := 10) d_156_5 rfl hf (fun hf => ?_) (fun hf => ?_)
  · refine P_aload_n d_156_10 rfl ?_
    refine A_V0 d_156_11 vk_156_223 ml_129 rfl k_0 hW rfl hf (fun r3 M4 hc hf => t_C_freeCords hW  hc (fun hW => ?_))
    refine A_istore_n d_156_14 ml_156 rfl rfl ?_
    refine P_aload_n d_156_15 rfl ?_
    refine A_gF d_156_16 cn_156 fk_CordLoft_67 ft_12_9 k_0 hW ?_
    refine P_aload_n d_156_19 rfl ?_
    refine A_gM d_156_20 cn_156 fk_CordLoft_35 k_0 hW hf (fun hk5 hf => ?_)
    refine P_iload_n d_156_23 rfl ?_
    refine A_V2 d_156_24 vk_156_227 ml_130 rfl k_86 hW rfl hf (fun r6 M7 hc hf => t_Sets_reach hW hk5 hc (fun hW => ?_))
    refine P_aload_n d_156_27 rfl ?_
    refine A_gF d_156_28 cn_156 fk_CordLoft_67 ft_12_9 k_0 hW ?_
    refine P_aload_n d_156_31 rfl ?_
    refine A_gM d_156_32 cn_156 fk_CordLoft_35 k_0 hW hf (fun hk8 hf => ?_)
    refine P_iload_n d_156_35 rfl ?_
    refine A_iconst d_156_36 ic_1 ?_
    refine P_iload_n d_156_37 rfl ?_
    refine P_ishl d_156_38 ?_
    refine A_iconst d_156_39 ic_m1 ?_
    refine P_ixor d_156_40 ?_
    refine P_iand d_156_41 ?_
    refine A_V2 d_156_42 vk_156_227 ml_130 rfl k_86 hW rfl hf (fun r9 M10 hc hf => t_Sets_reach hW hk8 hc (fun hW => ?_))
    refine P_isub d_156_45 ?_
    exact A_iret d_156_46 mr_156 hW hf k
  · refine A_iconst d_156_8 ic_m1 ?_
    exact A_iret d_156_9 mr_156 hW hf k
def f_Sets_leastUnreached_b9 (rec : Int32 → AM → Option ((Unit × AM) ⊕ (Int32 × AM))) (v1 : Nat) (v3 : Int32) (M : AM) : Option ((Unit × AM) ⊕ (Int32 × AM)) :=
  bnd (f_Plan_allPictures v1 M) (fun r1 M2 => if r1 ≤ v3 then some (.inl ((), M2)) else bnd (f_Sets_restOf v3 M2) (fun r3 M4 => if r3 = 0 then rec (v3 + 1) M4 else some (.inr (v3, M4))))
def f_Sets_leastUnreached_l9 (v1 : Nat) : Nat → Int32 → AM → Option ((Unit × AM) ⊕ (Int32 × AM))
  | 0, _, _ => none
  | n + 1, v3, M => f_Sets_leastUnreached_b9 (f_Sets_leastUnreached_l9 v1 n) v1 v3 M
set_option maxRecDepth 20000 in
theorem t_Sets_leastUnreached_b9 {G : GT} {d : Nat} {v1 : Nat} {v3 : Int32} {M : AM} {Q : AM → Option Value → Prop} {o : (Unit × AM) ⊕ (Int32 × AM)} {rec : Int32 → AM → Option ((Unit × AM) ⊕ (Int32 × AM))} (hrec : ∀ (v3 : Int32) (M : AM), WT M → rec v3 M = some o → PW G (d + 2) 158 9 [.ref 86, .ref v1, ux, .int v3] [] M 0 0 Q) (k1 : ∀ (yo : Unit) (Mo : AM), o = .inl (yo, Mo) → WT Mo → PW G (d + 2) 158 33 [ux, ux, ux, ux] [] Mo 0 0 Q) (k2 : ∀ (r : Int32) (M' : AM), o = .inr (r, M') → WT M' → Q M' (some (.int r))) (hW : WT M) (hv1 : kd0 v1 = 5)  (hf : f_Sets_leastUnreached_b9 rec v1 v3 M = some o) : PW G (d + 2) 158 9 [.ref 86, .ref v1, ux, .int v3] [] M 0 0 Q := by
  refine P_iload_n d_158_9 rfl ?_
  refine P_aload_n d_158_10 rfl ?_
  refine A_V0 d_158_11 vk_158_71 ml_115 rfl hv1 hW rfl hf (fun r1 M2 hc hf => t_Plan_allPictures hW hv1 hc (fun hW => ?_))
  refine A_icmp_ge (tgt := 33) d_158_14 rfl hf (fun hf => ?_) (fun hf => ?_)
  · refine P_fgt [false, false, false, false] ?_
    cases hf
    exact k1 _ _ rfl hW 
  · refine P_aload_n d_158_17 rfl ?_
    refine P_iload_n d_158_18 rfl ?_
    refine A_V1 d_158_19 vk_158_80 ml_131 rfl k_86 hW rfl hf (fun r3 M4 hc hf => t_Sets_restOf hW  hc (fun hW => ?_))
    refine A_if_eq (tgt := 27) d_158_22 rfl hf (fun hf => ?_) (fun hf => ?_)
    · refine A_iinc d_158_27 ic_1 rfl ml_158 rfl rfl ?_
      refine P_goto (tgt := 9) d_158_30 rfl ?_
      exact hrec _ _ hW  hf
    · refine P_iload_n d_158_25 rfl ?_
      cases hf
      exact A_iret d_158_26 mr_158 hW rfl (fun hW => k2 _ _ rfl hW)
theorem t_Sets_leastUnreached_l9 {G : GT} {d : Nat} {v1 : Nat} {Q : AM → Option Value → Prop} {o : (Unit × AM) ⊕ (Int32 × AM)} (k1 : ∀ (yo : Unit) (Mo : AM), o = .inl (yo, Mo) → WT Mo → PW G (d + 2) 158 33 [ux, ux, ux, ux] [] Mo 0 0 Q) (k2 : ∀ (r : Int32) (M' : AM), o = .inr (r, M') → WT M' → Q M' (some (.int r))) (hv1 : kd0 v1 = 5) : ∀ (z : Nat) (v3 : Int32) (M : AM), WT M → f_Sets_leastUnreached_l9 v1 z v3 M = some o → PW G (d + 2) 158 9 [.ref 86, .ref v1, ux, .int v3] [] M 0 0 Q := by
  intro z
  induction z with
  | zero => intro v3 M hW hf; cases hf
  | succ z ih => intro v3 M hW hf; exact t_Sets_leastUnreached_b9 (fun v3 M hW hf => ih v3 M hW hf) k1 k2 hW hv1  hf
def f_Sets_leastUnreached (a1 : Nat) (a2 : Int32) (M : AM) : Option (Int32 × AM) :=
  bnd (f_Sets_reach a1 a2 M) (fun r1 M2 => bn2 (f_Sets_leastUnreached_l9 a1 fu 1 M2) (fun y3 M4 => some (0, M4)))
set_option maxRecDepth 20000 in
theorem t_Sets_leastUnreached {G : GT} {d : Nat} {a1 : Nat} {a2 : Int32} {M : AM} {Q : AM → Option Value → Prop} {r : Int32} {M' : AM} (hW : WT M) (ha1 : kd0 a1 = 5) (hf : f_Sets_leastUnreached a1 a2 M = some (r, M')) (k : WT M' → Q M' (some (.int r)))  : Cal G (d + 2) 158 [.ref 86, .ref a1, .int a2] M Q := by
  refine A_enter ml_158 rfl ?_
  refine P_aload_n d_158_0 rfl ?_
  refine P_aload_n d_158_1 rfl ?_
  refine P_iload_n d_158_2 rfl ?_
  refine A_V2 d_158_3 vk_158_86 ml_130 rfl k_86 hW rfl hf (fun r1 M2 hc hf => t_Sets_reach hW ha1 hc (fun hW => ?_))
  refine P_pop d_158_6 rfl ?_
  refine A_iconst d_158_7 ic_1 ?_
  refine A_istore_n d_158_8 ml_158 rfl rfl ?_
  obtain ⟨o, hl, hf⟩ := bn2_some hf
  refine P_fgt [true, true, false, true] ?_
  refine t_Sets_leastUnreached_l9 (o := o) (fun y3 M4 e hW => ?_) (fun r1 Mr e hW => ?_) ha1 fu _ _ hW  hl
  · subst e
    change _ = some (r, M') at hf
    refine A_iconst d_158_33 ic_0 ?_
    exact A_iret d_158_34 mr_158 hW hf k
  · subst e; cases hf; exact k hW
def f_C_more (a1 : Int32) (M : AM) : Option (Int32 × AM) :=
  ckK (gR M 0 3) 5 (bnd (f_C_freeCords  M) (fun r2 M3 => bnd (f_Sets_reach (gR M 0 3) r2 M3) (fun r4 M5 => ckK (gR M5 0 3) 5 (bnd (f_Plan_allPictures (gR M5 0 3) M5) (fun r7 M8 => if r4 = r7 then bnd (f_C_either a1 0 r4 M8) (fun r16 M17 => some (r16, M17)) else ckK (gR M8 0 3) 5 (bnd (f_C_freeCords  M8) (fun r10 M11 => bnd (f_Sets_leastUnreached (gR M8 0 3) r10 M11) (fun r12 M13 => bnd (f_C_either a1 r12 (r4 * 2) M13) (fun r14 M15 => some (r14, M15))))))))))
set_option maxRecDepth 20000 in
theorem t_C_more {G : GT} {d : Nat} {a1 : Int32} {M : AM} {Q : AM → Option Value → Prop} {r : Int32} {M' : AM} (hW : WT M)  (hf : f_C_more a1 M = some (r, M')) (k : WT M' → Q M' (some (.int r)))  : Cal G (d + 3) 157 [.ref 0, .int a1] M Q := by
  refine A_enter ml_157 rfl ?_
  refine P_aload_n d_157_0 rfl ?_
  refine A_gF d_157_1 cn_157 fk_CordLoft_67 ft_12_9 k_0 hW ?_
  refine P_aload_n d_157_4 rfl ?_
  refine A_gM d_157_5 cn_157 fk_CordLoft_35 k_0 hW hf (fun hk1 hf => ?_)
  refine P_aload_n d_157_8 rfl ?_
  refine A_V0 d_157_9 vk_157_223 ml_129 rfl k_0 hW rfl hf (fun r2 M3 hc hf => t_C_freeCords hW  hc (fun hW => ?_))
  refine A_V2 d_157_12 vk_157_227 ml_130 rfl k_86 hW rfl hf (fun r4 M5 hc hf => t_Sets_reach hW hk1 hc (fun hW => ?_))
  refine A_istore_n d_157_15 ml_157 rfl rfl ?_
  refine P_iload_n d_157_16 rfl ?_
  refine P_aload_n d_157_17 rfl ?_
  refine A_gM d_157_18 cn_157 fk_CordLoft_35 k_0 hW hf (fun hk6 hf => ?_)
  refine A_V0 d_157_21 vk_157_268 ml_115 rfl hk6 hW rfl hf (fun r7 M8 hc hf => t_Plan_allPictures hW hk6 hc (fun hW => ?_))
  refine A_icmp_ne (tgt := 34) d_157_24 rfl hf (fun hf => ?_) (fun hf => ?_)
  · refine P_iload_n d_157_34 rfl ?_
    refine P_aload_n d_157_35 rfl ?_
    refine A_gF d_157_36 cn_157 fk_CordLoft_67 ft_12_9 k_0 hW ?_
    refine P_aload_n d_157_39 rfl ?_
    refine A_gM d_157_40 cn_157 fk_CordLoft_35 k_0 hW hf (fun hk9 hf => ?_)
    refine P_aload_n d_157_43 rfl ?_
    refine A_V0 d_157_44 vk_157_223 ml_129 rfl k_0 hW rfl hf (fun r10 M11 hc hf => t_C_freeCords hW  hc (fun hW => ?_))
    refine A_V2 d_157_47 vk_157_275 ml_158 rfl k_86 hW rfl hf (fun r12 M13 hc hf => t_Sets_leastUnreached hW hk9 hc (fun hW => ?_))
    refine P_iload_n d_157_50 rfl ?_
    refine A_iconst d_157_51 ic_2 ?_
    refine P_imul d_157_52 ?_
    refine A_S3 d_157_53 sk_157_132 ml_84 rfl rfl hf (fun r14 M15 hc hf => t_C_either hW  hc (fun hW => ?_))
    exact A_iret d_157_56 mr_157 hW hf k
  · refine P_iload_n d_157_27 rfl ?_
    refine A_iconst d_157_28 ic_0 ?_
    refine P_iload_n d_157_29 rfl ?_
    refine A_S3 d_157_30 sk_157_132 ml_84 rfl rfl hf (fun r16 M17 hc hf => t_C_either hW  hc (fun hW => ?_))
    exact A_iret d_157_33 mr_157 hW hf k
def f_Sets_leastExchanged_b23 (rec : Int32 → Int32 → AM → Option (Int32 × AM)) (v2 : Int32) (v3 : Int32) (v4 : Int32) (v5 : Int32) (v6 : Int32) (v7 : Int32) (M : AM) : Option (Int32 × AM) :=
  if v2 ≤ v7 then some (v6, M) else ald 256 M 89 v7 (fun x1 => ald 256 M 89 v7 (fun x2 => ald 256 M 90 v7 (fun x3 => rec (if (x3 + ((((x1 >>> (v3 &&& 31)) &&& 1) - ((x2 >>> (v4 &&& 31)) &&& 1)) * v5)) < v6 then (x3 + ((((x1 >>> (v3 &&& 31)) &&& 1) - ((x2 >>> (v4 &&& 31)) &&& 1)) * v5)) else v6) (v7 + 1) M)))
def f_Sets_leastExchanged_l23 (v2 : Int32) (v3 : Int32) (v4 : Int32) (v5 : Int32) : Nat → Int32 → Int32 → AM → Option (Int32 × AM)
  | 0, _, _, _ => none
  | n + 1, v6, v7, M => f_Sets_leastExchanged_b23 (f_Sets_leastExchanged_l23 v2 v3 v4 v5 n) v2 v3 v4 v5 v6 v7 M
set_option maxRecDepth 20000 in
theorem t_Sets_leastExchanged_b23 {G : GT} {d : Nat} {v2 : Int32} {v3 : Int32} {v4 : Int32} {v5 : Int32} {v6 : Int32} {v7 : Int32} {M : AM} {Q : AM → Option Value → Prop} {yo : Int32} {Mo : AM} {rec : Int32 → Int32 → AM → Option (Int32 × AM)} (hrec : ∀ (v6 : Int32) (v7 : Int32) (M : AM), WT M → rec v6 v7 M = some (yo, Mo) → PW G (d + 1) 161 23 [.ref 86, ux, .int v2, .int v3, .int v4, .int v5, .int v6, .int v7, ux, ux] [] M 0 0 Q) (k1 : WT Mo → PW G (d + 1) 161 85 [ux, ux, ux, ux, ux, ux, .int yo, ux, ux, ux] [] Mo 0 0 Q) (hW : WT M)   (hf : f_Sets_leastExchanged_b23 rec v2 v3 v4 v5 v6 v7 M = some (yo, Mo)) : PW G (d + 1) 161 23 [.ref 86, ux, .int v2, .int v3, .int v4, .int v5, .int v6, .int v7, ux, ux] [] M 0 0 Q := by
  refine P_iload d_161_23 rfl ?_
  refine P_iload_n d_161_25 rfl ?_
  refine A_icmp_ge (tgt := 85) d_161_26 rfl hf (fun hf => ?_) (fun hf => ?_)
  · refine P_fgt [false, false, false, false, false, false, true, false, false, false] ?_
    cases hf
    exact k1 hW 
  · refine P_aload_n d_161_29 rfl ?_
    refine A_gF d_161_30 cn_161 fk_CordLoft_Sets_24 ft_7_2 k_86 hW ?_
    refine P_iload d_161_33 rfl ?_
    refine A_iald d_161_35 k_89 l_89 hW hf (fun hf => ?_)
    refine P_iload_n d_161_36 rfl ?_
    refine P_ishr d_161_37 ?_
    refine A_iconst d_161_38 ic_1 ?_
    refine P_iand d_161_39 ?_
    refine A_istore d_161_40 ml_161 rfl rfl ?_
    refine P_aload_n d_161_42 rfl ?_
    refine A_gF d_161_43 cn_161 fk_CordLoft_Sets_24 ft_7_2 k_86 hW ?_
    refine P_iload d_161_46 rfl ?_
    refine A_iald d_161_48 k_89 l_89 hW hf (fun hf => ?_)
    refine P_iload d_161_49 rfl ?_
    refine P_ishr d_161_51 ?_
    refine A_iconst d_161_52 ic_1 ?_
    refine P_iand d_161_53 ?_
    refine A_istore d_161_54 ml_161 rfl rfl ?_
    refine P_iload d_161_56 rfl ?_
    refine P_aload_n d_161_58 rfl ?_
    refine A_gF d_161_59 cn_161 fk_CordLoft_Sets_27 ft_7_3 k_86 hW ?_
    refine P_iload d_161_62 rfl ?_
    refine A_iald d_161_64 k_90 l_90 hW hf (fun hf => ?_)
    refine P_iload d_161_65 rfl ?_
    refine P_iload d_161_67 rfl ?_
    refine P_isub d_161_69 ?_
    refine P_iload d_161_70 rfl ?_
    refine P_imul d_161_72 ?_
    refine P_iadd d_161_73 ?_
    refine A_min d_161_74 cn_161 mk_CordLoft_Sets_101 rfl ?_
    refine A_istore d_161_77 ml_161 rfl rfl ?_
    refine A_iinc d_161_79 ic_1 rfl ml_161 rfl rfl ?_
    refine P_goto (tgt := 23) d_161_82 rfl ?_
    refine P_fgt [true, false, true, true, true, true, true, true, false, false] ?_
    exact hrec _ _ _ hW  hf
theorem t_Sets_leastExchanged_l23 {G : GT} {d : Nat} {v2 : Int32} {v3 : Int32} {v4 : Int32} {v5 : Int32} {Q : AM → Option Value → Prop} {yo : Int32} {Mo : AM} (k1 : WT Mo → PW G (d + 1) 161 85 [ux, ux, ux, ux, ux, ux, .int yo, ux, ux, ux] [] Mo 0 0 Q)  : ∀ (z : Nat) (v6 : Int32) (v7 : Int32) (M : AM), WT M → f_Sets_leastExchanged_l23 v2 v3 v4 v5 z v6 v7 M = some (yo, Mo) → PW G (d + 1) 161 23 [.ref 86, ux, .int v2, .int v3, .int v4, .int v5, .int v6, .int v7, ux, ux] [] M 0 0 Q := by
  intro z
  induction z with
  | zero => intro v6 v7 M hW hf; cases hf
  | succ z ih => intro v6 v7 M hW hf; exact t_Sets_leastExchanged_b23 (fun v6 v7 M hW hf => ih v6 v7 M hW hf) k1 hW   hf
def f_Sets_leastExchanged (a1 : Nat) (a2 : Int32) (a3 : Int32) (a4 : Int32) (M : AM) : Option (Int32 × AM) :=
  ald 8 M (a1 + 7) a4 (fun x1 => ald 8 M (a1 + 7) a3 (fun x2 => bnd (f_Sets_leastExchanged_l23 a2 a3 a4 (x1 - x2) fu 2147483647 0 M) (fun y3 M4 => some (y3, M4))))
set_option maxRecDepth 20000 in
theorem t_Sets_leastExchanged {G : GT} {d : Nat} {a1 : Nat} {a2 : Int32} {a3 : Int32} {a4 : Int32} {M : AM} {Q : AM → Option Value → Prop} {r : Int32} {M' : AM} (hW : WT M) (ha1 : kd0 a1 = 5) (hf : f_Sets_leastExchanged a1 a2 a3 a4 M = some (r, M')) (k : WT M' → Q M' (some (.int r)))  : Cal G (d + 1) 161 [.ref 86, .ref a1, .int a2, .int a3, .int a4] M Q := by
  refine A_enter ml_161 rfl ?_
  refine P_aload_n d_161_0 rfl ?_
  refine A_gFr d_161_1 cn_161 fk_CordLoft_Sets_114 ft_5_9 ha1 hW ?_
  refine P_iload d_161_4 rfl ?_
  refine A_iald d_161_6 (kr_5_7 ha1) (lr_5_7 ha1) hW hf (fun hf => ?_)
  refine P_aload_n d_161_7 rfl ?_
  refine A_gFr d_161_8 cn_161 fk_CordLoft_Sets_114 ft_5_9 ha1 hW ?_
  refine P_iload_n d_161_11 rfl ?_
  refine A_iald d_161_12 (kr_5_7 ha1) (lr_5_7 ha1) hW hf (fun hf => ?_)
  refine P_isub d_161_13 ?_
  refine A_istore d_161_14 ml_161 rfl rfl ?_
  refine A_ldc d_161_16 cn_161 cw_CordLoft_Sets_100 ?_
  refine A_istore d_161_18 ml_161 rfl rfl ?_
  refine A_iconst d_161_20 ic_0 ?_
  refine A_istore d_161_21 ml_161 rfl rfl ?_
  obtain ⟨y3, M4, hl, hf⟩ := bnd_some hf
  refine P_fgt [true, false, true, true, true, true, true, true, false, false] ?_
  refine t_Sets_leastExchanged_l23 (fun hW => ?_)  fu _ _ _ hW  hl
  refine P_iload d_161_85 rfl ?_
  exact A_iret d_161_87 mr_161 hW hf k
def f_Sets_bestExchange_b109 (rec : Int32 → AM → Option (Unit × AM)) (v1 : Nat) (v3 : Int32) (v4 : Int32) (v5 : Int32) (v6 : Int32) (M : AM) : Option (Unit × AM) :=
  if (gI M v1 6) ≤ v6 then some ((), M) else bnd (f_Sets_leastExchanged v1 v3 v5 v6 M) (fun r1 M2 => if v4 ≤ r1 then rec (v6 + 1) M2 else bnd (f_Best_offer r1 ((v5 * 8) + v6) M2) (fun r3 M4 => rec (v6 + 1) M4))
def f_Sets_bestExchange_l109 (v1 : Nat) (v3 : Int32) (v4 : Int32) (v5 : Int32) : Nat → Int32 → AM → Option (Unit × AM)
  | 0, _, _ => none
  | n + 1, v6, M => f_Sets_bestExchange_b109 (f_Sets_bestExchange_l109 v1 v3 v4 v5 n) v1 v3 v4 v5 v6 M
set_option maxRecDepth 20000 in
theorem t_Sets_bestExchange_b109 {G : GT} {d : Nat} {v1 : Nat} {v3 : Int32} {v4 : Int32} {v5 : Int32} {v6 : Int32} {M : AM} {Q : AM → Option Value → Prop} {yo : Unit} {Mo : AM} {rec : Int32 → AM → Option (Unit × AM)} (hrec : ∀ (v6 : Int32) (M : AM), WT M → rec v6 M = some (yo, Mo) → PW G (d + 2) 160 109 [.ref 86, .ref v1, ux, .int v3, .int v4, .int v5, .int v6, ux] [] M 0 0 Q) (k1 : WT Mo → PW G (d + 2) 160 160 [.ref 86, .ref v1, ux, .int v3, .int v4, .int v5, ux, ux] [] Mo 0 0 Q) (hW : WT M) (hv1 : kd0 v1 = 5)  (hf : f_Sets_bestExchange_b109 rec v1 v3 v4 v5 v6 M = some (yo, Mo)) : PW G (d + 2) 160 109 [.ref 86, .ref v1, ux, .int v3, .int v4, .int v5, .int v6, ux] [] M 0 0 Q := by
  refine P_iload d_160_109 rfl ?_
  refine P_aload_n d_160_111 rfl ?_
  refine A_gI d_160_112 cn_160 fk_CordLoft_Sets_74 hv1 hW ?_
  refine A_icmp_ge (tgt := 160) d_160_115 rfl hf (fun hf => ?_) (fun hf => ?_)
  · refine P_fgt [true, true, false, true, true, true, false, false] ?_
    cases hf
    exact k1 hW 
  · refine P_aload_n d_160_118 rfl ?_
    refine P_aload_n d_160_119 rfl ?_
    refine P_iload_n d_160_120 rfl ?_
    refine P_iload d_160_121 rfl ?_
    refine P_iload d_160_123 rfl ?_
    refine A_V4 d_160_125 vk_160_107 ml_161 rfl k_86 hW rfl hf (fun r1 M2 hc hf => t_Sets_leastExchanged hW hv1 hc (fun hW => ?_))
    refine A_istore d_160_128 ml_160 rfl rfl ?_
    refine P_iload d_160_130 rfl ?_
    refine P_iload d_160_132 rfl ?_
    refine A_icmp_ge (tgt := 154) d_160_134 rfl hf (fun hf => ?_) (fun hf => ?_)
    · refine A_iinc d_160_154 ic_1 rfl ml_160 rfl rfl ?_
      refine P_goto (tgt := 109) d_160_157 rfl ?_
      refine P_fgt [true, true, false, true, true, true, true, false] ?_
      exact hrec _ _ hW  hf
    · refine P_aload_n d_160_137 rfl ?_
      refine A_gF d_160_138 cn_160 fk_CordLoft_Sets_12 ft_7_0 k_86 hW ?_
      refine P_iload d_160_141 rfl ?_
      refine P_iload d_160_143 rfl ?_
      refine P_bipush d_160_145 bi_8 ?_
      refine P_imul d_160_147 ?_
      refine P_iload d_160_148 rfl ?_
      refine P_iadd d_160_150 ?_
      refine A_V2 d_160_151 vk_160_58 ml_121 rfl k_87 hW rfl hf (fun r3 M4 hc hf => t_Best_offer hW  hc (fun hW => ?_))
      refine A_iinc d_160_154 ic_1 rfl ml_160 rfl rfl ?_
      refine P_goto (tgt := 109) d_160_157 rfl ?_
      refine P_fgt [true, true, false, true, true, true, true, false] ?_
      exact hrec _ _ hW  hf
theorem t_Sets_bestExchange_l109 {G : GT} {d : Nat} {v1 : Nat} {v3 : Int32} {v4 : Int32} {v5 : Int32} {Q : AM → Option Value → Prop} {yo : Unit} {Mo : AM} (k1 : WT Mo → PW G (d + 2) 160 160 [.ref 86, .ref v1, ux, .int v3, .int v4, .int v5, ux, ux] [] Mo 0 0 Q) (hv1 : kd0 v1 = 5) : ∀ (z : Nat) (v6 : Int32) (M : AM), WT M → f_Sets_bestExchange_l109 v1 v3 v4 v5 z v6 M = some (yo, Mo) → PW G (d + 2) 160 109 [.ref 86, .ref v1, ux, .int v3, .int v4, .int v5, .int v6, ux] [] M 0 0 Q := by
  intro z
  induction z with
  | zero => intro v6 M hW hf; cases hf
  | succ z ih => intro v6 M hW hf; exact t_Sets_bestExchange_b109 (fun v6 M hW hf => ih v6 M hW hf) k1 hW hv1  hf
def f_Sets_bestExchange_b94 (rec : Int32 → AM → Option (Unit × AM)) (v1 : Nat) (v3 : Int32) (v4 : Int32) (v5 : Int32) (M : AM) : Option (Unit × AM) :=
  if (gI M v1 6) ≤ v5 then some ((), M) else bnd (f_Sets_bestExchange_l109 v1 v3 v4 v5 fu (v5 + 1) M) (fun y1 M2 => rec (v5 + 1) M2)
def f_Sets_bestExchange_l94 (v1 : Nat) (v3 : Int32) (v4 : Int32) : Nat → Int32 → AM → Option (Unit × AM)
  | 0, _, _ => none
  | n + 1, v5, M => f_Sets_bestExchange_b94 (f_Sets_bestExchange_l94 v1 v3 v4 n) v1 v3 v4 v5 M
set_option maxRecDepth 20000 in
theorem t_Sets_bestExchange_b94 {G : GT} {d : Nat} {v1 : Nat} {v3 : Int32} {v4 : Int32} {v5 : Int32} {M : AM} {Q : AM → Option Value → Prop} {yo : Unit} {Mo : AM} {rec : Int32 → AM → Option (Unit × AM)} (hrec : ∀ (v5 : Int32) (M : AM), WT M → rec v5 M = some (yo, Mo) → PW G (d + 2) 160 94 [.ref 86, .ref v1, ux, .int v3, .int v4, .int v5, ux, ux] [] M 0 0 Q) (k1 : WT Mo → PW G (d + 2) 160 166 [.ref 86, ux, ux, ux, ux, ux, ux, ux] [] Mo 0 0 Q) (hW : WT M) (hv1 : kd0 v1 = 5)  (hf : f_Sets_bestExchange_b94 rec v1 v3 v4 v5 M = some (yo, Mo)) : PW G (d + 2) 160 94 [.ref 86, .ref v1, ux, .int v3, .int v4, .int v5, ux, ux] [] M 0 0 Q := by
  refine P_iload d_160_94 rfl ?_
  refine P_aload_n d_160_96 rfl ?_
  refine A_gI d_160_97 cn_160 fk_CordLoft_Sets_74 hv1 hW ?_
  refine A_icmp_ge (tgt := 166) d_160_100 rfl hf (fun hf => ?_) (fun hf => ?_)
  · refine P_fgt [true, false, false, false, false, false, false, false] ?_
    cases hf
    exact k1 hW 
  · refine P_iload d_160_103 rfl ?_
    refine A_iconst d_160_105 ic_1 ?_
    refine P_iadd d_160_106 ?_
    refine A_istore d_160_107 ml_160 rfl rfl ?_
    obtain ⟨y1, M2, hl, hf⟩ := bnd_some hf
    refine t_Sets_bestExchange_l109 (fun hW => ?_) hv1 fu _ _ hW  hl
    refine A_iinc d_160_160 ic_1 rfl ml_160 rfl rfl ?_
    refine P_goto (tgt := 94) d_160_163 rfl ?_
    exact hrec _ _ hW  hf
theorem t_Sets_bestExchange_l94 {G : GT} {d : Nat} {v1 : Nat} {v3 : Int32} {v4 : Int32} {Q : AM → Option Value → Prop} {yo : Unit} {Mo : AM} (k1 : WT Mo → PW G (d + 2) 160 166 [.ref 86, ux, ux, ux, ux, ux, ux, ux] [] Mo 0 0 Q) (hv1 : kd0 v1 = 5) : ∀ (z : Nat) (v5 : Int32) (M : AM), WT M → f_Sets_bestExchange_l94 v1 v3 v4 z v5 M = some (yo, Mo) → PW G (d + 2) 160 94 [.ref 86, .ref v1, ux, .int v3, .int v4, .int v5, ux, ux] [] M 0 0 Q := by
  intro z
  induction z with
  | zero => intro v5 M hW hf; cases hf
  | succ z ih => intro v5 M hW hf; exact t_Sets_bestExchange_b94 (fun v5 M hW hf => ih v5 M hW hf) k1 hW hv1  hf
def f_Sets_bestExchange_b9 (rec : Int32 → Int32 → Int32 → AM → Option ((Int32 × Int32) × AM)) (v1 : Nat) (v2 : Nat) (v3 : Int32) (v4 : Int32) (v5 : Int32) (M : AM) : Option ((Int32 × Int32) × AM) :=
  bnd (f_Plan_allCords v1 M) (fun r1 M2 => if r1 < v5 then some ((v3, v4), M2) else if (v5 &&& (gI M2 v2 1)) = 0 then ald 256 M2 (v1 + 8) v5 (fun x3 => if x3 = (gI M2 v2 0) then ast 256 M2 89 v3 v5 (fun M4 => bnd (f_Plan_priceOf v1 v5 M4) (fun r5 M6 => ast 256 M6 90 v3 r5 (fun M7 => ald 256 M7 90 v3 (fun x8 => rec (v3 + 1) (if x8 < v4 then x8 else v4) (v5 + 1) M7)))) else rec v3 v4 (v5 + 1) M2) else rec v3 v4 (v5 + 1) M2)
def f_Sets_bestExchange_l9 (v1 : Nat) (v2 : Nat) : Nat → Int32 → Int32 → Int32 → AM → Option ((Int32 × Int32) × AM)
  | 0, _, _, _, _ => none
  | n + 1, v3, v4, v5, M => f_Sets_bestExchange_b9 (f_Sets_bestExchange_l9 v1 v2 n) v1 v2 v3 v4 v5 M
set_option maxRecDepth 20000 in
theorem t_Sets_bestExchange_b9 {G : GT} {d : Nat} {v1 : Nat} {v2 : Nat} {v3 : Int32} {v4 : Int32} {v5 : Int32} {M : AM} {Q : AM → Option Value → Prop} {yo : Int32 × Int32} {Mo : AM} {rec : Int32 → Int32 → Int32 → AM → Option ((Int32 × Int32) × AM)} (hrec : ∀ (v3 : Int32) (v4 : Int32) (v5 : Int32) (M : AM), WT M → rec v3 v4 v5 M = some (yo, Mo) → PW G (d + 2) 160 9 [.ref 86, .ref v1, .ref v2, .int v3, .int v4, .int v5, ux, ux] [] M 0 0 Q) (k1 : WT Mo → PW G (d + 2) 160 84 [.ref 86, .ref v1, ux, .int yo.1, .int yo.2, ux, ux, ux] [] Mo 0 0 Q) (hW : WT M) (hv1 : kd0 v1 = 5) (hv2 : kd0 v2 = 9)  (hf : f_Sets_bestExchange_b9 rec v1 v2 v3 v4 v5 M = some (yo, Mo)) : PW G (d + 2) 160 9 [.ref 86, .ref v1, .ref v2, .int v3, .int v4, .int v5, ux, ux] [] M 0 0 Q := by
  refine P_iload d_160_9 rfl ?_
  refine P_aload_n d_160_11 rfl ?_
  refine A_V0 d_160_12 vk_160_33 ml_117 rfl hv1 hW rfl hf (fun r1 M2 hc hf => t_Plan_allCords hW hv1 hc (fun hW => ?_))
  refine A_icmp_gt (tgt := 84) d_160_15 rfl hf (fun hf => ?_) (fun hf => ?_)
  · refine P_fgt [true, true, false, true, true, false, false, false] ?_
    cases hf
    exact k1 hW 
  · refine P_iload d_160_18 rfl ?_
    refine P_aload_n d_160_20 rfl ?_
    refine A_gI d_160_21 cn_160 fk_CordLoft_Sets_37 hv2 hW ?_
    refine P_iand d_160_24 ?_
    refine A_if_ne (tgt := 78) d_160_25 rfl hf (fun hf => ?_) (fun hf => ?_)
    · refine A_iinc d_160_78 ic_1 rfl ml_160 rfl rfl ?_
      refine P_goto (tgt := 9) d_160_81 rfl ?_
      exact hrec _ _ _ _ hW  hf
    · refine P_aload_n d_160_28 rfl ?_
      refine A_gFr d_160_29 cn_160 fk_CordLoft_Sets_46 ft_5_10 hv1 hW ?_
      refine P_iload d_160_32 rfl ?_
      refine A_iald d_160_34 (kr_5_8 hv1) (lr_5_8 hv1) hW hf (fun hf => ?_)
      refine P_aload_n d_160_35 rfl ?_
      refine A_gI d_160_36 cn_160 fk_CordLoft_Sets_43 hv2 hW ?_
      refine A_icmp_ne (tgt := 78) d_160_39 rfl hf (fun hf => ?_) (fun hf => ?_)
      · refine A_iinc d_160_78 ic_1 rfl ml_160 rfl rfl ?_
        refine P_goto (tgt := 9) d_160_81 rfl ?_
        exact hrec _ _ _ _ hW  hf
      · refine P_aload_n d_160_42 rfl ?_
        refine A_gF d_160_43 cn_160 fk_CordLoft_Sets_24 ft_7_2 k_86 hW ?_
        refine P_iload_n d_160_46 rfl ?_
        refine P_iload d_160_47 rfl ?_
        refine A_iast d_160_49 k_89 l_89 hW hf (fun hW hf => ?_)
        refine P_aload_n d_160_50 rfl ?_
        refine A_gF d_160_51 cn_160 fk_CordLoft_Sets_27 ft_7_3 k_86 hW ?_
        refine P_iload_n d_160_54 rfl ?_
        refine P_aload_n d_160_55 rfl ?_
        refine P_iload d_160_56 rfl ?_
        refine A_V1 d_160_58 vk_160_65 ml_124 rfl hv1 hW rfl hf (fun r5 M6 hc hf => t_Plan_priceOf hW hv1 hc (fun hW => ?_))
        refine A_iast d_160_61 k_90 l_90 hW hf (fun hW hf => ?_)
        refine P_iload d_160_62 rfl ?_
        refine P_aload_n d_160_64 rfl ?_
        refine A_gF d_160_65 cn_160 fk_CordLoft_Sets_27 ft_7_3 k_86 hW ?_
        refine P_iload_n d_160_68 rfl ?_
        refine A_iald d_160_69 k_90 l_90 hW hf (fun hf => ?_)
        refine A_min d_160_70 cn_160 mk_CordLoft_Sets_101 rfl ?_
        refine A_istore d_160_73 ml_160 rfl rfl ?_
        refine A_iinc d_160_75 ic_1 rfl ml_160 rfl rfl ?_
        refine A_iinc d_160_78 ic_1 rfl ml_160 rfl rfl ?_
        refine P_goto (tgt := 9) d_160_81 rfl ?_
        exact hrec _ _ _ _ hW  hf
theorem t_Sets_bestExchange_l9 {G : GT} {d : Nat} {v1 : Nat} {v2 : Nat} {Q : AM → Option Value → Prop} {yo : Int32 × Int32} {Mo : AM} (k1 : WT Mo → PW G (d + 2) 160 84 [.ref 86, .ref v1, ux, .int yo.1, .int yo.2, ux, ux, ux] [] Mo 0 0 Q) (hv1 : kd0 v1 = 5) (hv2 : kd0 v2 = 9) : ∀ (z : Nat) (v3 : Int32) (v4 : Int32) (v5 : Int32) (M : AM), WT M → f_Sets_bestExchange_l9 v1 v2 z v3 v4 v5 M = some (yo, Mo) → PW G (d + 2) 160 9 [.ref 86, .ref v1, .ref v2, .int v3, .int v4, .int v5, ux, ux] [] M 0 0 Q := by
  intro z
  induction z with
  | zero => intro v3 v4 v5 M hW hf; cases hf
  | succ z ih => intro v3 v4 v5 M hW hf; exact t_Sets_bestExchange_b9 (fun v3 v4 v5 M hW hf => ih v3 v4 v5 M hW hf) k1 hW hv1 hv2  hf
def f_Sets_bestExchange (a1 : Nat) (a2 : Nat) (M : AM) : Option (Int32 × AM) :=
  bnd (f_Sets_bestExchange_l9 a1 a2 fu 0 2147483647 0 M) (fun y1 M2 => bnd (f_Best_clear  M2) (fun r3 M4 => bnd (f_Sets_bestExchange_l94 a1 y1.1 y1.2 fu 0 M4) (fun y5 M6 => wI M6 86 6 (gI M6 87 0) (fun M7 => some (gI M7 87 1, M7)))))
set_option maxRecDepth 20000 in
theorem t_Sets_bestExchange {G : GT} {d : Nat} {a1 : Nat} {a2 : Nat} {M : AM} {Q : AM → Option Value → Prop} {r : Int32} {M' : AM} (hW : WT M) (ha1 : kd0 a1 = 5) (ha2 : kd0 a2 = 9) (hf : f_Sets_bestExchange a1 a2 M = some (r, M')) (k : WT M' → Q M' (some (.int r)))  : Cal G (d + 2) 160 [.ref 86, .ref a1, .ref a2] M Q := by
  refine A_enter ml_160 rfl ?_
  refine A_iconst d_160_0 ic_0 ?_
  refine A_istore_n d_160_1 ml_160 rfl rfl ?_
  refine A_ldc d_160_2 cn_160 cw_CordLoft_Sets_100 ?_
  refine A_istore d_160_4 ml_160 rfl rfl ?_
  refine A_iconst d_160_6 ic_0 ?_
  refine A_istore d_160_7 ml_160 rfl rfl ?_
  obtain ⟨y1, M2, hl, hf⟩ := bnd_some hf
  refine t_Sets_bestExchange_l9 (fun hW => ?_) ha1 ha2 fu _ _ _ _ hW  hl
  refine P_aload_n d_160_84 rfl ?_
  refine A_gF d_160_85 cn_160 fk_CordLoft_Sets_12 ft_7_0 k_86 hW ?_
  refine A_V0 d_160_88 vk_160_49 ml_120 rfl k_87 hW rfl hf (fun r3 M4 hc hf => t_Best_clear hW  hc (fun hW => ?_))
  refine A_iconst d_160_91 ic_0 ?_
  refine A_istore d_160_92 ml_160 rfl rfl ?_
  obtain ⟨y5, M6, hl, hf⟩ := bnd_some hf
  refine t_Sets_bestExchange_l94 (fun hW => ?_) ha1 fu _ _ hW  hl
  refine P_aload_n d_160_166 rfl ?_
  refine P_aload_n d_160_167 rfl ?_
  refine A_gF d_160_168 cn_160 fk_CordLoft_Sets_12 ft_7_0 k_86 hW ?_
  refine A_gI d_160_171 cn_160 fk_CordLoft_Sets_97 k_87 hW ?_
  refine A_pI d_160_174 cn_160 fp_CordLoft_Sets_111 k_86 hW hf (fun hW hf => ?_)
  refine P_aload_n d_160_177 rfl ?_
  refine A_gF d_160_178 cn_160 fk_CordLoft_Sets_12 ft_7_0 k_86 hW ?_
  refine A_gI d_160_181 cn_160 fk_CordLoft_Sets_62 k_87 hW ?_
  exact A_iret d_160_184 mr_160 hW hf k
def f_C_exchange (a1 : Int32) (M : AM) : Option (Int32 × AM) :=
  if a1 < 0 then some ((-1), M) else if a1 ≤ 2 then ckK (gR M 0 3) 5 (bnd (f_Acts_current  M) (fun r2 M3 => bnd (f_Sets_bestExchange (gR M 0 3) r2 M3) (fun r4 M5 => if 0 ≤ r4 then if a1 = 2 then some (gI M5 86 6, M5) else bnd (f_C_either a1 (r4 / 8) (r4 % 8) M5) (fun r6 M7 => some (r6, M7)) else some ((-1), M5)))) else some ((-1), M)
set_option maxRecDepth 20000 in
theorem t_C_exchange {G : GT} {d : Nat} {a1 : Int32} {M : AM} {Q : AM → Option Value → Prop} {r : Int32} {M' : AM} (hW : WT M)  (hf : f_C_exchange a1 M = some (r, M')) (k : WT M' → Q M' (some (.int r)))  : Cal G (d + 3) 159 [.ref 0, .int a1] M Q := by
  refine A_enter ml_159 rfl ?_
  refine P_iload_n d_159_0 rfl ?_
  refine A_if_lt (tgt := 9) d_159_1 rfl hf (fun hf => ?_) (fun hf => ?_)
  · refine A_iconst d_159_9 ic_m1 ?_
    exact A_iret d_159_10 mr_159 hW hf k
  · refine P_iload_n d_159_4 rfl ?_
    refine A_iconst d_159_5 ic_2 ?_
    refine A_icmp_le (tgt := 11) d_159_6 rfl hf (fun hf => ?_) (fun hf => ?_)
    · refine P_aload_n d_159_11 rfl ?_
      refine A_gF d_159_12 cn_159 fk_CordLoft_67 ft_12_9 k_0 hW ?_
      refine P_aload_n d_159_15 rfl ?_
      refine A_gM d_159_16 cn_159 fk_CordLoft_35 k_0 hW hf (fun hk1 hf => ?_)
      refine P_aload_n d_159_19 rfl ?_
      refine A_gF d_159_20 cn_159 fk_CordLoft_45 ft_12_5 k_0 hW ?_
      refine A_V0 d_159_23 vk_159_114 ml_78 rfl k_38 hW rfl hf (fun r2 M3 hc hf => t_Acts_current hW  hc (fun hW hb3 => ?_))
      refine A_V2 d_159_26 vk_159_278 ml_160 rfl k_86 hW rfl hf (fun r4 M5 hc hf => t_Sets_bestExchange hW hk1 hb3 hc (fun hW => ?_))
      refine A_istore_n d_159_29 ml_159 rfl rfl ?_
      refine P_iload_n d_159_30 rfl ?_
      refine A_if_ge (tgt := 36) d_159_31 rfl hf (fun hf => ?_) (fun hf => ?_)
      · refine P_iload_n d_159_36 rfl ?_
        refine A_iconst d_159_37 ic_2 ?_
        refine A_icmp_ne (tgt := 51) d_159_38 rfl hf (fun hf => ?_) (fun hf => ?_)
        · refine P_iload_n d_159_51 rfl ?_
          refine P_iload_n d_159_52 rfl ?_
          refine P_bipush d_159_53 bi_8 ?_
          refine P_idiv d_159_55 nz_8 ?_
          refine P_iload_n d_159_56 rfl ?_
          refine P_bipush d_159_57 bi_8 ?_
          refine P_irem d_159_59 nz_8 ?_
          refine A_S3 d_159_60 sk_159_132 ml_84 rfl rfl hf (fun r6 M7 hc hf => t_C_either hW  hc (fun hW => ?_))
          exact A_iret d_159_63 mr_159 hW hf k
        · refine P_aload_n d_159_41 rfl ?_
          refine A_gF d_159_42 cn_159 fk_CordLoft_67 ft_12_9 k_0 hW ?_
          refine A_gI d_159_45 cn_159 fk_CordLoft_281 k_86 hW ?_
          refine P_goto (tgt := 63) d_159_48 rfl ?_
          exact A_iret d_159_63 mr_159 hW hf k
      · refine A_iconst d_159_34 ic_m1 ?_
        exact A_iret d_159_35 mr_159 hW hf k
    · refine A_iconst d_159_9 ic_m1 ?_
      exact A_iret d_159_10 mr_159 hW hf k
def f_Sets_bestLoosened_b19 (rec : Int32 → AM → Option (Unit × AM)) (v1 : Nat) (v2 : Int32) (v3 : Int32) (v4 : Int32) (M : AM) : Option (Unit × AM) :=
  if (gI M v1 6) ≤ v4 then some ((), M) else if ((v2 >>> (v4 &&& 31)) &&& 1) = 0 then rec (v4 + 1) M else bnd (f_Sets_reach v1 (v3 ||| ((1 : Int32) <<< (v4 &&& 31))) M) (fun r1 M2 => bnd (f_Best_offer (-r1) v4 M2) (fun r3 M4 => rec (v4 + 1) M4))
def f_Sets_bestLoosened_l19 (v1 : Nat) (v2 : Int32) (v3 : Int32) : Nat → Int32 → AM → Option (Unit × AM)
  | 0, _, _ => none
  | n + 1, v4, M => f_Sets_bestLoosened_b19 (f_Sets_bestLoosened_l19 v1 v2 v3 n) v1 v2 v3 v4 M
set_option maxRecDepth 20000 in
theorem t_Sets_bestLoosened_b19 {G : GT} {d : Nat} {v1 : Nat} {v2 : Int32} {v3 : Int32} {v4 : Int32} {M : AM} {Q : AM → Option Value → Prop} {yo : Unit} {Mo : AM} {rec : Int32 → AM → Option (Unit × AM)} (hrec : ∀ (v4 : Int32) (M : AM), WT M → rec v4 M = some (yo, Mo) → PW G (d + 2) 163 19 [.ref 86, .ref v1, .int v2, .int v3, .int v4] [] M 0 0 Q) (k1 : WT Mo → PW G (d + 2) 163 64 [.ref 86, ux, ux, ux, ux] [] Mo 0 0 Q) (hW : WT M) (hv1 : kd0 v1 = 5)  (hf : f_Sets_bestLoosened_b19 rec v1 v2 v3 v4 M = some (yo, Mo)) : PW G (d + 2) 163 19 [.ref 86, .ref v1, .int v2, .int v3, .int v4] [] M 0 0 Q := by
  refine P_iload d_163_19 rfl ?_
  refine P_aload_n d_163_21 rfl ?_
  refine A_gI d_163_22 cn_163 fk_CordLoft_Sets_74 hv1 hW ?_
  refine A_icmp_ge (tgt := 64) d_163_25 rfl hf (fun hf => ?_) (fun hf => ?_)
  · refine P_fgt [true, false, false, false, false] ?_
    cases hf
    exact k1 hW 
  · refine P_iload_n d_163_28 rfl ?_
    refine P_iload d_163_29 rfl ?_
    refine P_ishr d_163_31 ?_
    refine A_iconst d_163_32 ic_1 ?_
    refine P_iand d_163_33 ?_
    refine A_if_eq (tgt := 58) d_163_34 rfl hf (fun hf => ?_) (fun hf => ?_)
    · refine A_iinc d_163_58 ic_1 rfl ml_163 rfl rfl ?_
      refine P_goto (tgt := 19) d_163_61 rfl ?_
      exact hrec _ _ hW  hf
    · refine P_aload_n d_163_37 rfl ?_
      refine A_gF d_163_38 cn_163 fk_CordLoft_Sets_12 ft_7_0 k_86 hW ?_
      refine P_aload_n d_163_41 rfl ?_
      refine P_aload_n d_163_42 rfl ?_
      refine P_iload_n d_163_43 rfl ?_
      refine A_iconst d_163_44 ic_1 ?_
      refine P_iload d_163_45 rfl ?_
      refine P_ishl d_163_47 ?_
      refine P_ior d_163_48 ?_
      refine A_V2 d_163_49 vk_163_86 ml_130 rfl k_86 hW rfl hf (fun r1 M2 hc hf => t_Sets_reach hW hv1 hc (fun hW => ?_))
      refine P_ineg d_163_52 ?_
      refine P_iload d_163_53 rfl ?_
      refine A_V2 d_163_55 vk_163_58 ml_121 rfl k_87 hW rfl hf (fun r3 M4 hc hf => t_Best_offer hW  hc (fun hW => ?_))
      refine A_iinc d_163_58 ic_1 rfl ml_163 rfl rfl ?_
      refine P_goto (tgt := 19) d_163_61 rfl ?_
      exact hrec _ _ hW  hf
theorem t_Sets_bestLoosened_l19 {G : GT} {d : Nat} {v1 : Nat} {v2 : Int32} {v3 : Int32} {Q : AM → Option Value → Prop} {yo : Unit} {Mo : AM} (k1 : WT Mo → PW G (d + 2) 163 64 [.ref 86, ux, ux, ux, ux] [] Mo 0 0 Q) (hv1 : kd0 v1 = 5) : ∀ (z : Nat) (v4 : Int32) (M : AM), WT M → f_Sets_bestLoosened_l19 v1 v2 v3 z v4 M = some (yo, Mo) → PW G (d + 2) 163 19 [.ref 86, .ref v1, .int v2, .int v3, .int v4] [] M 0 0 Q := by
  intro z
  induction z with
  | zero => intro v4 M hW hf; cases hf
  | succ z ih => intro v4 M hW hf; exact t_Sets_bestLoosened_b19 (fun v4 M hW hf => ih v4 M hW hf) k1 hW hv1  hf
def f_Sets_bestLoosened (a1 : Nat) (a2 : Int32) (M : AM) : Option (Int32 × AM) :=
  bnd (f_Plan_allCords a1 M) (fun r1 M2 => bnd (f_Best_clear  M2) (fun r3 M4 => bnd (f_Sets_bestLoosened_l19 a1 a2 (r1 &&& (a2 ^^^ (-1))) fu 0 M4) (fun y5 M6 => some (gI M6 87 1, M6))))
set_option maxRecDepth 20000 in
theorem t_Sets_bestLoosened {G : GT} {d : Nat} {a1 : Nat} {a2 : Int32} {M : AM} {Q : AM → Option Value → Prop} {r : Int32} {M' : AM} (hW : WT M) (ha1 : kd0 a1 = 5) (hf : f_Sets_bestLoosened a1 a2 M = some (r, M')) (k : WT M' → Q M' (some (.int r)))  : Cal G (d + 2) 163 [.ref 86, .ref a1, .int a2] M Q := by
  refine A_enter ml_163 rfl ?_
  refine P_aload_n d_163_0 rfl ?_
  refine A_V0 d_163_1 vk_163_33 ml_117 rfl ha1 hW rfl hf (fun r1 M2 hc hf => t_Plan_allCords hW ha1 hc (fun hW => ?_))
  refine P_iload_n d_163_4 rfl ?_
  refine A_iconst d_163_5 ic_m1 ?_
  refine P_ixor d_163_6 ?_
  refine P_iand d_163_7 ?_
  refine A_istore_n d_163_8 ml_163 rfl rfl ?_
  refine P_aload_n d_163_9 rfl ?_
  refine A_gF d_163_10 cn_163 fk_CordLoft_Sets_12 ft_7_0 k_86 hW ?_
  refine A_V0 d_163_13 vk_163_49 ml_120 rfl k_87 hW rfl hf (fun r3 M4 hc hf => t_Best_clear hW  hc (fun hW => ?_))
  refine A_iconst d_163_16 ic_0 ?_
  refine A_istore d_163_17 ml_163 rfl rfl ?_
  obtain ⟨y5, M6, hl, hf⟩ := bnd_some hf
  refine t_Sets_bestLoosened_l19 (fun hW => ?_) ha1 fu _ _ hW  hl
  refine P_aload_n d_163_64 rfl ?_
  refine A_gF d_163_65 cn_163 fk_CordLoft_Sets_12 ft_7_0 k_86 hW ?_
  refine A_gI d_163_68 cn_163 fk_CordLoft_Sets_62 k_87 hW ?_
  exact A_iret d_163_71 mr_163 hW hf k
def f_C_loosen  (M : AM) : Option (Int32 × AM) :=
  ckK (gR M 0 3) 5 (bnd (f_Acts_current  M) (fun r2 M3 => bnd (f_Sets_bestLoosened (gR M 0 3) (gI M3 r2 1) M3) (fun r4 M5 => some (r4, M5))))
set_option maxRecDepth 20000 in
theorem t_C_loosen {G : GT} {d : Nat}  {M : AM} {Q : AM → Option Value → Prop} {r : Int32} {M' : AM} (hW : WT M)  (hf : f_C_loosen  M = some (r, M')) (k : WT M' → Q M' (some (.int r)))  : Cal G (d + 3) 162 [.ref 0] M Q := by
  refine A_enter ml_162 rfl ?_
  refine P_aload_n d_162_0 rfl ?_
  refine A_gF d_162_1 cn_162 fk_CordLoft_67 ft_12_9 k_0 hW ?_
  refine P_aload_n d_162_4 rfl ?_
  refine A_gM d_162_5 cn_162 fk_CordLoft_35 k_0 hW hf (fun hk1 hf => ?_)
  refine P_aload_n d_162_8 rfl ?_
  refine A_gF d_162_9 cn_162 fk_CordLoft_45 ft_12_5 k_0 hW ?_
  refine A_V0 d_162_12 vk_162_114 ml_78 rfl k_38 hW rfl hf (fun r2 M3 hc hf => t_Acts_current hW  hc (fun hW hb3 => ?_))
  refine A_gI d_162_15 cn_162 fk_CordLoft_161 hb3 hW ?_
  refine A_V2 d_162_18 vk_162_284 ml_163 rfl k_86 hW rfl hf (fun r4 M5 hc hf => t_Sets_bestLoosened hW hk1 hc (fun hW => ?_))
  exact A_iret d_162_21 mr_162 hW hf k
def f_Sets_brightestPull_b9 (rec : Int32 → AM → Option (Unit × AM)) (v1 : Nat) (v2 : Nat) (v3 : Int32) (M : AM) : Option (Unit × AM) :=
  if (gI M v1 6) ≤ v3 then some ((), M) else if (((gI M v2 1) >>> (v3 &&& 31)) &&& 1) = 0 then ald 8 M (v1 + 6) v3 (fun x1 => bnd (f_Int_bitCount ((gI M v2 0) ^^^ x1) M) (fun r2 M3 => bnd (f_Best_offer (-r2) v3 M3) (fun r4 M5 => rec (v3 + 1) M5))) else rec (v3 + 1) M
def f_Sets_brightestPull_l9 (v1 : Nat) (v2 : Nat) : Nat → Int32 → AM → Option (Unit × AM)
  | 0, _, _ => none
  | n + 1, v3, M => f_Sets_brightestPull_b9 (f_Sets_brightestPull_l9 v1 v2 n) v1 v2 v3 M
set_option maxRecDepth 20000 in
theorem t_Sets_brightestPull_b9 {G : GT} {d : Nat} {v1 : Nat} {v2 : Nat} {v3 : Int32} {M : AM} {Q : AM → Option Value → Prop} {yo : Unit} {Mo : AM} {rec : Int32 → AM → Option (Unit × AM)} (hrec : ∀ (v3 : Int32) (M : AM), WT M → rec v3 M = some (yo, Mo) → PW G (d + 1) 165 9 [.ref 86, .ref v1, .ref v2, .int v3] [] M 0 0 Q) (k1 : WT Mo → PW G (d + 1) 165 57 [.ref 86, ux, ux, ux] [] Mo 0 0 Q) (hW : WT M) (hv1 : kd0 v1 = 5) (hv2 : kd0 v2 = 9)  (hf : f_Sets_brightestPull_b9 rec v1 v2 v3 M = some (yo, Mo)) : PW G (d + 1) 165 9 [.ref 86, .ref v1, .ref v2, .int v3] [] M 0 0 Q := by
  refine P_iload_n d_165_9 rfl ?_
  refine P_aload_n d_165_10 rfl ?_
  refine A_gI d_165_11 cn_165 fk_CordLoft_Sets_74 hv1 hW ?_
  refine A_icmp_ge (tgt := 57) d_165_14 rfl hf (fun hf => ?_) (fun hf => ?_)
  · refine P_fgt [true, false, false, false] ?_
    cases hf
    exact k1 hW 
  · refine P_aload_n d_165_17 rfl ?_
    refine A_gI d_165_18 cn_165 fk_CordLoft_Sets_37 hv2 hW ?_
    refine P_iload_n d_165_21 rfl ?_
    refine P_ishr d_165_22 ?_
    refine A_iconst d_165_23 ic_1 ?_
    refine P_iand d_165_24 ?_
    refine A_if_ne (tgt := 51) d_165_25 rfl hf (fun hf => ?_) (fun hf => ?_)
    · refine A_iinc d_165_51 ic_1 rfl ml_165 rfl rfl ?_
      refine P_goto (tgt := 9) d_165_54 rfl ?_
      exact hrec _ _ hW  hf
    · refine P_aload_n d_165_28 rfl ?_
      refine A_gF d_165_29 cn_165 fk_CordLoft_Sets_12 ft_7_0 k_86 hW ?_
      refine P_aload_n d_165_32 rfl ?_
      refine A_gI d_165_33 cn_165 fk_CordLoft_Sets_43 hv2 hW ?_
      refine P_aload_n d_165_36 rfl ?_
      refine A_gFr d_165_37 cn_165 fk_CordLoft_Sets_77 ft_5_8 hv1 hW ?_
      refine P_iload_n d_165_40 rfl ?_
      refine A_iald d_165_41 (kr_5_6 hv1) (lr_5_6 hv1) hW hf (fun hf => ?_)
      refine P_ixor d_165_42 ?_
      refine A_S1 d_165_43 sk_165_52 ml_92 rfl rfl hf (fun r2 M3 hc hf => t_Int_bitCount hW  hc (fun hW => ?_))
      refine P_ineg d_165_46 ?_
      refine P_iload_n d_165_47 rfl ?_
      refine A_V2 d_165_48 vk_165_58 ml_121 rfl k_87 hW rfl hf (fun r4 M5 hc hf => t_Best_offer hW  hc (fun hW => ?_))
      refine A_iinc d_165_51 ic_1 rfl ml_165 rfl rfl ?_
      refine P_goto (tgt := 9) d_165_54 rfl ?_
      exact hrec _ _ hW  hf
theorem t_Sets_brightestPull_l9 {G : GT} {d : Nat} {v1 : Nat} {v2 : Nat} {Q : AM → Option Value → Prop} {yo : Unit} {Mo : AM} (k1 : WT Mo → PW G (d + 1) 165 57 [.ref 86, ux, ux, ux] [] Mo 0 0 Q) (hv1 : kd0 v1 = 5) (hv2 : kd0 v2 = 9) : ∀ (z : Nat) (v3 : Int32) (M : AM), WT M → f_Sets_brightestPull_l9 v1 v2 z v3 M = some (yo, Mo) → PW G (d + 1) 165 9 [.ref 86, .ref v1, .ref v2, .int v3] [] M 0 0 Q := by
  intro z
  induction z with
  | zero => intro v3 M hW hf; cases hf
  | succ z ih => intro v3 M hW hf; exact t_Sets_brightestPull_b9 (fun v3 M hW hf => ih v3 M hW hf) k1 hW hv1 hv2  hf
def f_Sets_brightestPull (a1 : Nat) (a2 : Nat) (M : AM) : Option (Int32 × AM) :=
  bnd (f_Best_clear  M) (fun r1 M2 => bnd (f_Sets_brightestPull_l9 a1 a2 fu 0 M2) (fun y3 M4 => some (gI M4 87 1, M4)))
set_option maxRecDepth 20000 in
theorem t_Sets_brightestPull {G : GT} {d : Nat} {a1 : Nat} {a2 : Nat} {M : AM} {Q : AM → Option Value → Prop} {r : Int32} {M' : AM} (hW : WT M) (ha1 : kd0 a1 = 5) (ha2 : kd0 a2 = 9) (hf : f_Sets_brightestPull a1 a2 M = some (r, M')) (k : WT M' → Q M' (some (.int r)))  : Cal G (d + 1) 165 [.ref 86, .ref a1, .ref a2] M Q := by
  refine A_enter ml_165 rfl ?_
  refine P_aload_n d_165_0 rfl ?_
  refine A_gF d_165_1 cn_165 fk_CordLoft_Sets_12 ft_7_0 k_86 hW ?_
  refine A_V0 d_165_4 vk_165_49 ml_120 rfl k_87 hW rfl hf (fun r1 M2 hc hf => t_Best_clear hW  hc (fun hW => ?_))
  refine A_iconst d_165_7 ic_0 ?_
  refine A_istore_n d_165_8 ml_165 rfl rfl ?_
  obtain ⟨y3, M4, hl, hf⟩ := bnd_some hf
  refine t_Sets_brightestPull_l9 (fun hW => ?_) ha1 ha2 fu _ _ hW  hl
  refine P_aload_n d_165_57 rfl ?_
  refine A_gF d_165_58 cn_165 fk_CordLoft_Sets_12 ft_7_0 k_86 hW ?_
  refine A_gI d_165_61 cn_165 fk_CordLoft_Sets_62 k_87 hW ?_
  exact A_iret d_165_64 mr_165 hW hf k
def f_C_boldest (a1 : Int32) (M : AM) : Option (Int32 × AM) :=
  bnd (f_Acts_current  M) (fun r1 M2 => ckK (gR M2 0 3) 5 (bnd (f_Sets_brightestPull (gR M2 0 3) r1 M2) (fun r4 M5 => if 0 ≤ r4 then ckK (gR M5 0 3) 5 (ald 8 M5 ((gR M5 0 3) + 6) r4 (fun x7 => bnd (f_Int_bitCount ((gI M5 r1 0) ^^^ x7) M5) (fun r8 M9 => bnd (f_C_either a1 r4 r8 M9) (fun r10 M11 => some (r10, M11))))) else some ((-1), M5))))
set_option maxRecDepth 20000 in
theorem t_C_boldest {G : GT} {d : Nat} {a1 : Int32} {M : AM} {Q : AM → Option Value → Prop} {r : Int32} {M' : AM} (hW : WT M)  (hf : f_C_boldest a1 M = some (r, M')) (k : WT M' → Q M' (some (.int r)))  : Cal G (d + 2) 164 [.ref 0, .int a1] M Q := by
  refine A_enter ml_164 rfl ?_
  refine P_aload_n d_164_0 rfl ?_
  refine A_gF d_164_1 cn_164 fk_CordLoft_45 ft_12_5 k_0 hW ?_
  refine A_V0 d_164_4 vk_164_114 ml_78 rfl k_38 hW rfl hf (fun r1 M2 hc hf => t_Acts_current hW  hc (fun hW hb2 => ?_))
  refine A_astore_n d_164_7 ml_164 rfl rfl ?_
  refine P_aload_n d_164_8 rfl ?_
  refine A_gF d_164_9 cn_164 fk_CordLoft_67 ft_12_9 k_0 hW ?_
  refine P_aload_n d_164_12 rfl ?_
  refine A_gM d_164_13 cn_164 fk_CordLoft_35 k_0 hW hf (fun hk3 hf => ?_)
  refine P_aload_n d_164_16 rfl ?_
  refine A_V2 d_164_17 vk_164_287 ml_165 rfl k_86 hW rfl hf (fun r4 M5 hc hf => t_Sets_brightestPull hW hk3 hb2 hc (fun hW => ?_))
  refine A_istore_n d_164_20 ml_164 rfl rfl ?_
  refine P_iload_n d_164_21 rfl ?_
  refine A_if_ge (tgt := 29) d_164_22 rfl hf (fun hf => ?_) (fun hf => ?_)
  · refine P_iload_n d_164_29 rfl ?_
    refine P_iload_n d_164_30 rfl ?_
    refine P_aload_n d_164_31 rfl ?_
    refine A_gI d_164_32 cn_164 fk_CordLoft_140 hb2 hW ?_
    refine P_aload_n d_164_35 rfl ?_
    refine A_gM d_164_36 cn_164 fk_CordLoft_35 k_0 hW hf (fun hk6 hf => ?_)
    refine A_gFr d_164_39 cn_164 fk_CordLoft_155 ft_5_8 hk6 hW ?_
    refine P_iload_n d_164_42 rfl ?_
    refine A_iald d_164_43 (kr_5_6 hk6) (lr_5_6 hk6) hW hf (fun hf => ?_)
    refine P_ixor d_164_44 ?_
    refine A_S1 d_164_45 sk_164_167 ml_92 rfl rfl hf (fun r8 M9 hc hf => t_Int_bitCount hW  hc (fun hW => ?_))
    refine A_S3 d_164_48 sk_164_132 ml_84 rfl rfl hf (fun r10 M11 hc hf => t_C_either hW  hc (fun hW => ?_))
    exact A_iret d_164_51 mr_164 hW hf k
  · refine A_iconst d_164_25 ic_m1 ?_
    refine P_goto (tgt := 51) d_164_26 rfl ?_
    exact A_iret d_164_51 mr_164 hW hf k
def f_Sets_dearestOf_b9 (rec : Int32 → AM → Option (Unit × AM)) (v1 : Nat) (v2 : Int32) (v3 : Int32) (M : AM) : Option (Unit × AM) :=
  if (gI M v1 6) ≤ v3 then some ((), M) else if ((v2 >>> (v3 &&& 31)) &&& 1) = 0 then rec (v3 + 1) M else ald 8 M (v1 + 7) v3 (fun x1 => bnd (f_Best_offer (-x1) v3 M) (fun r2 M3 => rec (v3 + 1) M3))
def f_Sets_dearestOf_l9 (v1 : Nat) (v2 : Int32) : Nat → Int32 → AM → Option (Unit × AM)
  | 0, _, _ => none
  | n + 1, v3, M => f_Sets_dearestOf_b9 (f_Sets_dearestOf_l9 v1 v2 n) v1 v2 v3 M
set_option maxRecDepth 20000 in
theorem t_Sets_dearestOf_b9 {G : GT} {d : Nat} {v1 : Nat} {v2 : Int32} {v3 : Int32} {M : AM} {Q : AM → Option Value → Prop} {yo : Unit} {Mo : AM} {rec : Int32 → AM → Option (Unit × AM)} (hrec : ∀ (v3 : Int32) (M : AM), WT M → rec v3 M = some (yo, Mo) → PW G (d + 1) 167 9 [.ref 86, .ref v1, .int v2, .int v3] [] M 0 0 Q) (k1 : WT Mo → PW G (d + 1) 167 46 [.ref 86, ux, ux, ux] [] Mo 0 0 Q) (hW : WT M) (hv1 : kd0 v1 = 5)  (hf : f_Sets_dearestOf_b9 rec v1 v2 v3 M = some (yo, Mo)) : PW G (d + 1) 167 9 [.ref 86, .ref v1, .int v2, .int v3] [] M 0 0 Q := by
  refine P_iload_n d_167_9 rfl ?_
  refine P_aload_n d_167_10 rfl ?_
  refine A_gI d_167_11 cn_167 fk_CordLoft_Sets_74 hv1 hW ?_
  refine A_icmp_ge (tgt := 46) d_167_14 rfl hf (fun hf => ?_) (fun hf => ?_)
  · refine P_fgt [true, false, false, false] ?_
    cases hf
    exact k1 hW 
  · refine P_iload_n d_167_17 rfl ?_
    refine P_iload_n d_167_18 rfl ?_
    refine P_ishr d_167_19 ?_
    refine A_iconst d_167_20 ic_1 ?_
    refine P_iand d_167_21 ?_
    refine A_if_eq (tgt := 40) d_167_22 rfl hf (fun hf => ?_) (fun hf => ?_)
    · refine A_iinc d_167_40 ic_1 rfl ml_167 rfl rfl ?_
      refine P_goto (tgt := 9) d_167_43 rfl ?_
      exact hrec _ _ hW  hf
    · refine P_aload_n d_167_25 rfl ?_
      refine A_gF d_167_26 cn_167 fk_CordLoft_Sets_12 ft_7_0 k_86 hW ?_
      refine P_aload_n d_167_29 rfl ?_
      refine A_gFr d_167_30 cn_167 fk_CordLoft_Sets_114 ft_5_9 hv1 hW ?_
      refine P_iload_n d_167_33 rfl ?_
      refine A_iald d_167_34 (kr_5_7 hv1) (lr_5_7 hv1) hW hf (fun hf => ?_)
      refine P_ineg d_167_35 ?_
      refine P_iload_n d_167_36 rfl ?_
      refine A_V2 d_167_37 vk_167_58 ml_121 rfl k_87 hW rfl hf (fun r2 M3 hc hf => t_Best_offer hW  hc (fun hW => ?_))
      refine A_iinc d_167_40 ic_1 rfl ml_167 rfl rfl ?_
      refine P_goto (tgt := 9) d_167_43 rfl ?_
      exact hrec _ _ hW  hf
theorem t_Sets_dearestOf_l9 {G : GT} {d : Nat} {v1 : Nat} {v2 : Int32} {Q : AM → Option Value → Prop} {yo : Unit} {Mo : AM} (k1 : WT Mo → PW G (d + 1) 167 46 [.ref 86, ux, ux, ux] [] Mo 0 0 Q) (hv1 : kd0 v1 = 5) : ∀ (z : Nat) (v3 : Int32) (M : AM), WT M → f_Sets_dearestOf_l9 v1 v2 z v3 M = some (yo, Mo) → PW G (d + 1) 167 9 [.ref 86, .ref v1, .int v2, .int v3] [] M 0 0 Q := by
  intro z
  induction z with
  | zero => intro v3 M hW hf; cases hf
  | succ z ih => intro v3 M hW hf; exact t_Sets_dearestOf_b9 (fun v3 M hW hf => ih v3 M hW hf) k1 hW hv1  hf
def f_Sets_dearestOf (a1 : Nat) (a2 : Int32) (M : AM) : Option (Int32 × AM) :=
  bnd (f_Best_clear  M) (fun r1 M2 => bnd (f_Sets_dearestOf_l9 a1 a2 fu 0 M2) (fun y3 M4 => some (gI M4 87 1, M4)))
set_option maxRecDepth 20000 in
theorem t_Sets_dearestOf {G : GT} {d : Nat} {a1 : Nat} {a2 : Int32} {M : AM} {Q : AM → Option Value → Prop} {r : Int32} {M' : AM} (hW : WT M) (ha1 : kd0 a1 = 5) (hf : f_Sets_dearestOf a1 a2 M = some (r, M')) (k : WT M' → Q M' (some (.int r)))  : Cal G (d + 1) 167 [.ref 86, .ref a1, .int a2] M Q := by
  refine A_enter ml_167 rfl ?_
  refine P_aload_n d_167_0 rfl ?_
  refine A_gF d_167_1 cn_167 fk_CordLoft_Sets_12 ft_7_0 k_86 hW ?_
  refine A_V0 d_167_4 vk_167_49 ml_120 rfl k_87 hW rfl hf (fun r1 M2 hc hf => t_Best_clear hW  hc (fun hW => ?_))
  refine A_iconst d_167_7 ic_0 ?_
  refine A_istore_n d_167_8 ml_167 rfl rfl ?_
  obtain ⟨y3, M4, hl, hf⟩ := bnd_some hf
  refine t_Sets_dearestOf_l9 (fun hW => ?_) ha1 fu _ _ hW  hl
  refine P_aload_n d_167_46 rfl ?_
  refine A_gF d_167_47 cn_167 fk_CordLoft_Sets_12 ft_7_0 k_86 hW ?_
  refine A_gI d_167_50 cn_167 fk_CordLoft_Sets_62 k_87 hW ?_
  exact A_iret d_167_53 mr_167 hW hf k
def f_C_dearest  (M : AM) : Option (Int32 × AM) :=
  ckK (gR M 0 3) 5 (bnd (f_C_freeCords  M) (fun r2 M3 => bnd (f_Sets_dearestOf (gR M 0 3) r2 M3) (fun r4 M5 => some (r4, M5))))
set_option maxRecDepth 20000 in
theorem t_C_dearest {G : GT} {d : Nat}  {M : AM} {Q : AM → Option Value → Prop} {r : Int32} {M' : AM} (hW : WT M)  (hf : f_C_dearest  M = some (r, M')) (k : WT M' → Q M' (some (.int r)))  : Cal G (d + 2) 166 [.ref 0] M Q := by
  refine A_enter ml_166 rfl ?_
  refine P_aload_n d_166_0 rfl ?_
  refine A_gF d_166_1 cn_166 fk_CordLoft_67 ft_12_9 k_0 hW ?_
  refine P_aload_n d_166_4 rfl ?_
  refine A_gM d_166_5 cn_166 fk_CordLoft_35 k_0 hW hf (fun hk1 hf => ?_)
  refine P_aload_n d_166_8 rfl ?_
  refine A_V0 d_166_9 vk_166_223 ml_129 rfl k_0 hW rfl hf (fun r2 M3 hc hf => t_C_freeCords hW  hc (fun hW => ?_))
  refine A_V2 d_166_12 vk_166_290 ml_167 rfl k_86 hW rfl hf (fun r4 M5 hc hf => t_Sets_dearestOf hW hk1 hc (fun hW => ?_))
  exact A_iret d_166_15 mr_166 hW hf k
def f_C_odd_b9 (rec : Int32 → Int32 → AM → Option (Int32 × AM)) (v1 : Int32) (v2 : Int32) (v3 : Int32) (M : AM) : Option (Int32 × AM) :=
  ckK (gR M 0 3) 5 (if (gI M (gR M 0 3) 6) ≤ v3 then some (v2, M) else if ((v1 >>> (v3 &&& 31)) &&& 1) = 0 then rec v2 (v3 + 1) M else ckK (gR M 0 3) 5 (ald 8 M ((gR M 0 3) + 6) v3 (fun x3 => bnd (f_Int_bitCount x3 M) (fun r4 M5 => if (r4 % 2) = 1 then rec (v2 ||| ((1 : Int32) <<< (v3 &&& 31))) (v3 + 1) M5 else rec v2 (v3 + 1) M5))))
def f_C_odd_l9 (v1 : Int32) : Nat → Int32 → Int32 → AM → Option (Int32 × AM)
  | 0, _, _, _ => none
  | n + 1, v2, v3, M => f_C_odd_b9 (f_C_odd_l9 v1 n) v1 v2 v3 M
set_option maxRecDepth 20000 in
theorem t_C_odd_b9 {G : GT} {d : Nat} {v1 : Int32} {v2 : Int32} {v3 : Int32} {M : AM} {Q : AM → Option Value → Prop} {yo : Int32} {Mo : AM} {rec : Int32 → Int32 → AM → Option (Int32 × AM)} (hrec : ∀ (v2 : Int32) (v3 : Int32) (M : AM), WT M → rec v2 v3 M = some (yo, Mo) → PW G (d + 2) 168 9 [.ref 0, .int v1, .int v2, .int v3] [] M 0 0 Q) (k1 : WT Mo → PW G (d + 2) 168 58 [ux, ux, .int yo, ux] [] Mo 0 0 Q) (hW : WT M)   (hf : f_C_odd_b9 rec v1 v2 v3 M = some (yo, Mo)) : PW G (d + 2) 168 9 [.ref 0, .int v1, .int v2, .int v3] [] M 0 0 Q := by
  refine P_iload_n d_168_9 rfl ?_
  refine P_aload_n d_168_10 rfl ?_
  refine A_gM d_168_11 cn_168 fk_CordLoft_35 k_0 hW hf (fun hk1 hf => ?_)
  refine A_gI d_168_14 cn_168 fk_CordLoft_231 hk1 hW ?_
  refine A_icmp_ge (tgt := 58) d_168_17 rfl hf (fun hf => ?_) (fun hf => ?_)
  · refine P_fgt [false, false, true, false] ?_
    cases hf
    exact k1 hW 
  · refine P_iload_n d_168_20 rfl ?_
    refine P_iload_n d_168_21 rfl ?_
    refine P_ishr d_168_22 ?_
    refine A_iconst d_168_23 ic_1 ?_
    refine P_iand d_168_24 ?_
    refine A_if_eq (tgt := 52) d_168_25 rfl hf (fun hf => ?_) (fun hf => ?_)
    · refine A_iinc d_168_52 ic_1 rfl ml_168 rfl rfl ?_
      refine P_goto (tgt := 9) d_168_55 rfl ?_
      exact hrec _ _ _ hW  hf
    · refine P_aload_n d_168_28 rfl ?_
      refine A_gM d_168_29 cn_168 fk_CordLoft_35 k_0 hW hf (fun hk2 hf => ?_)
      refine A_gFr d_168_32 cn_168 fk_CordLoft_155 ft_5_8 hk2 hW ?_
      refine P_iload_n d_168_35 rfl ?_
      refine A_iald d_168_36 (kr_5_6 hk2) (lr_5_6 hk2) hW hf (fun hf => ?_)
      refine A_S1 d_168_37 sk_168_167 ml_92 rfl rfl hf (fun r4 M5 hc hf => t_Int_bitCount hW  hc (fun hW => ?_))
      refine A_iconst d_168_40 ic_2 ?_
      refine P_irem d_168_41 nz_2 ?_
      refine A_iconst d_168_42 ic_1 ?_
      refine A_icmp_ne (tgt := 52) d_168_43 rfl hf (fun hf => ?_) (fun hf => ?_)
      · refine A_iinc d_168_52 ic_1 rfl ml_168 rfl rfl ?_
        refine P_goto (tgt := 9) d_168_55 rfl ?_
        exact hrec _ _ _ hW  hf
      · refine P_iload_n d_168_46 rfl ?_
        refine A_iconst d_168_47 ic_1 ?_
        refine P_iload_n d_168_48 rfl ?_
        refine P_ishl d_168_49 ?_
        refine P_ior d_168_50 ?_
        refine A_istore_n d_168_51 ml_168 rfl rfl ?_
        refine A_iinc d_168_52 ic_1 rfl ml_168 rfl rfl ?_
        refine P_goto (tgt := 9) d_168_55 rfl ?_
        exact hrec _ _ _ hW  hf
theorem t_C_odd_l9 {G : GT} {d : Nat} {v1 : Int32} {Q : AM → Option Value → Prop} {yo : Int32} {Mo : AM} (k1 : WT Mo → PW G (d + 2) 168 58 [ux, ux, .int yo, ux] [] Mo 0 0 Q)  : ∀ (z : Nat) (v2 : Int32) (v3 : Int32) (M : AM), WT M → f_C_odd_l9 v1 z v2 v3 M = some (yo, Mo) → PW G (d + 2) 168 9 [.ref 0, .int v1, .int v2, .int v3] [] M 0 0 Q := by
  intro z
  induction z with
  | zero => intro v2 v3 M hW hf; cases hf
  | succ z ih => intro v2 v3 M hW hf; exact t_C_odd_b9 (fun v2 v3 M hW hf => ih v2 v3 M hW hf) k1 hW   hf
def f_C_odd  (M : AM) : Option (Int32 × AM) :=
  bnd (f_C_freeCords  M) (fun r1 M2 => bnd (f_C_odd_l9 r1 fu 0 0 M2) (fun y3 M4 => some (y3, M4)))
set_option maxRecDepth 20000 in
theorem t_C_odd {G : GT} {d : Nat}  {M : AM} {Q : AM → Option Value → Prop} {r : Int32} {M' : AM} (hW : WT M)  (hf : f_C_odd  M = some (r, M')) (k : WT M' → Q M' (some (.int r)))  : Cal G (d + 2) 168 [.ref 0] M Q := by
  refine A_enter ml_168 rfl ?_
  refine P_aload_n d_168_0 rfl ?_
  refine A_V0 d_168_1 vk_168_223 ml_129 rfl k_0 hW rfl hf (fun r1 M2 hc hf => t_C_freeCords hW  hc (fun hW => ?_))
  refine A_istore_n d_168_4 ml_168 rfl rfl ?_
  refine A_iconst d_168_5 ic_0 ?_
  refine A_istore_n d_168_6 ml_168 rfl rfl ?_
  refine A_iconst d_168_7 ic_0 ?_
  refine A_istore_n d_168_8 ml_168 rfl rfl ?_
  obtain ⟨y3, M4, hl, hf⟩ := bnd_some hf
  refine t_C_odd_l9 (fun hW => ?_)  fu _ _ _ hW  hl
  refine P_iload_n d_168_58 rfl ?_
  exact A_iret d_168_59 mr_168 hW hf k
def f_C_lampsTurnedBy_b10 (rec : Int32 → Int32 → AM → Option (Int32 × AM)) (v1 : Int32) (v2 : Int32) (v3 : Int32) (v4 : Int32) (M : AM) : Option (Int32 × AM) :=
  ckK (gR M 0 3) 5 (if (gI M (gR M 0 3) 0) ≤ v4 then some (v3, M) else ckK (gR M 0 3) 5 (ald 8 M ((gR M 0 3) + 3) v4 (fun x3 => if (x3 &&& v2) = v1 then rec (v3 ||| ((1 : Int32) <<< (v4 &&& 31))) (v4 + 1) M else rec v3 (v4 + 1) M)))
def f_C_lampsTurnedBy_l10 (v1 : Int32) (v2 : Int32) : Nat → Int32 → Int32 → AM → Option (Int32 × AM)
  | 0, _, _, _ => none
  | n + 1, v3, v4, M => f_C_lampsTurnedBy_b10 (f_C_lampsTurnedBy_l10 v1 v2 n) v1 v2 v3 v4 M
set_option maxRecDepth 20000 in
theorem t_C_lampsTurnedBy_b10 {G : GT} {d : Nat} {v1 : Int32} {v2 : Int32} {v3 : Int32} {v4 : Int32} {M : AM} {Q : AM → Option Value → Prop} {yo : Int32} {Mo : AM} {rec : Int32 → Int32 → AM → Option (Int32 × AM)} (hrec : ∀ (v3 : Int32) (v4 : Int32) (M : AM), WT M → rec v3 v4 M = some (yo, Mo) → PW G (d + 2) 170 10 [.ref 0, .int v1, .int v2, .int v3, .int v4] [] M 0 0 Q) (k1 : WT Mo → PW G (d + 2) 170 51 [ux, ux, ux, .int yo, ux] [] Mo 0 0 Q) (hW : WT M)   (hf : f_C_lampsTurnedBy_b10 rec v1 v2 v3 v4 M = some (yo, Mo)) : PW G (d + 2) 170 10 [.ref 0, .int v1, .int v2, .int v3, .int v4] [] M 0 0 Q := by
  refine P_iload d_170_10 rfl ?_
  refine P_aload_n d_170_12 rfl ?_
  refine A_gM d_170_13 cn_170 fk_CordLoft_35 k_0 hW hf (fun hk1 hf => ?_)
  refine A_gI d_170_16 cn_170 fk_CordLoft_129 hk1 hW ?_
  refine A_icmp_ge (tgt := 51) d_170_19 rfl hf (fun hf => ?_) (fun hf => ?_)
  · refine P_fgt [false, false, false, true, false] ?_
    cases hf
    exact k1 hW 
  · refine P_aload_n d_170_22 rfl ?_
    refine A_gM d_170_23 cn_170 fk_CordLoft_35 k_0 hW hf (fun hk2 hf => ?_)
    refine A_gFr d_170_26 cn_170 fk_CordLoft_146 ft_5_4 hk2 hW ?_
    refine P_iload d_170_29 rfl ?_
    refine A_iald d_170_31 (kr_5_3 hk2) (lr_5_3 hk2) hW hf (fun hf => ?_)
    refine P_iload_n d_170_32 rfl ?_
    refine P_iand d_170_33 ?_
    refine P_iload_n d_170_34 rfl ?_
    refine A_icmp_ne (tgt := 45) d_170_35 rfl hf (fun hf => ?_) (fun hf => ?_)
    · refine A_iinc d_170_45 ic_1 rfl ml_170 rfl rfl ?_
      refine P_goto (tgt := 10) d_170_48 rfl ?_
      exact hrec _ _ _ hW  hf
    · refine P_iload_n d_170_38 rfl ?_
      refine A_iconst d_170_39 ic_1 ?_
      refine P_iload d_170_40 rfl ?_
      refine P_ishl d_170_42 ?_
      refine P_ior d_170_43 ?_
      refine A_istore_n d_170_44 ml_170 rfl rfl ?_
      refine A_iinc d_170_45 ic_1 rfl ml_170 rfl rfl ?_
      refine P_goto (tgt := 10) d_170_48 rfl ?_
      exact hrec _ _ _ hW  hf
theorem t_C_lampsTurnedBy_l10 {G : GT} {d : Nat} {v1 : Int32} {v2 : Int32} {Q : AM → Option Value → Prop} {yo : Int32} {Mo : AM} (k1 : WT Mo → PW G (d + 2) 170 51 [ux, ux, ux, .int yo, ux] [] Mo 0 0 Q)  : ∀ (z : Nat) (v3 : Int32) (v4 : Int32) (M : AM), WT M → f_C_lampsTurnedBy_l10 v1 v2 z v3 v4 M = some (yo, Mo) → PW G (d + 2) 170 10 [.ref 0, .int v1, .int v2, .int v3, .int v4] [] M 0 0 Q := by
  intro z
  induction z with
  | zero => intro v3 v4 M hW hf; cases hf
  | succ z ih => intro v3 v4 M hW hf; exact t_C_lampsTurnedBy_b10 (fun v3 v4 M hW hf => ih v3 v4 M hW hf) k1 hW   hf
def f_C_lampsTurnedBy (a1 : Int32) (M : AM) : Option (Int32 × AM) :=
  bnd (f_C_freeCords  M) (fun r1 M2 => bnd (f_C_lampsTurnedBy_l10 a1 r1 fu 0 0 M2) (fun y3 M4 => some (y3, M4)))
set_option maxRecDepth 20000 in
theorem t_C_lampsTurnedBy {G : GT} {d : Nat} {a1 : Int32} {M : AM} {Q : AM → Option Value → Prop} {r : Int32} {M' : AM} (hW : WT M)  (hf : f_C_lampsTurnedBy a1 M = some (r, M')) (k : WT M' → Q M' (some (.int r)))  : Cal G (d + 2) 170 [.ref 0, .int a1] M Q := by
  refine A_enter ml_170 rfl ?_
  refine P_aload_n d_170_0 rfl ?_
  refine A_V0 d_170_1 vk_170_223 ml_129 rfl k_0 hW rfl hf (fun r1 M2 hc hf => t_C_freeCords hW  hc (fun hW => ?_))
  refine A_istore_n d_170_4 ml_170 rfl rfl ?_
  refine A_iconst d_170_5 ic_0 ?_
  refine A_istore_n d_170_6 ml_170 rfl rfl ?_
  refine A_iconst d_170_7 ic_0 ?_
  refine A_istore d_170_8 ml_170 rfl rfl ?_
  obtain ⟨y3, M4, hl, hf⟩ := bnd_some hf
  refine t_C_lampsTurnedBy_l10 (fun hW => ?_)  fu _ _ _ hW  hl
  refine P_iload_n d_170_51 rfl ?_
  exact A_iret d_170_52 mr_170 hW hf k
def f_C_alike (a1 : Int32) (M : AM) : Option (Int32 × AM) :=
  ckK (gR M 0 3) 5 (bnd (f_Plan_hasLamp (gR M 0 3) a1 M) (fun r2 M3 => if r2 = 0 then some ((-1), M3) else ckK (gR M3 0 3) 5 (ald 8 M3 ((gR M3 0 3) + 3) a1 (fun x5 => bnd (f_C_freeCords  M3) (fun r6 M7 => bnd (f_C_lampsTurnedBy (x5 &&& r6) M7) (fun r8 M9 => some (r8 &&& (((1 : Int32) <<< (a1 &&& 31)) ^^^ (-1)), M9)))))))
set_option maxRecDepth 20000 in
theorem t_C_alike {G : GT} {d : Nat} {a1 : Int32} {M : AM} {Q : AM → Option Value → Prop} {r : Int32} {M' : AM} (hW : WT M)  (hf : f_C_alike a1 M = some (r, M')) (k : WT M' → Q M' (some (.int r)))  : Cal G (d + 3) 169 [.ref 0, .int a1] M Q := by
  refine A_enter ml_169 rfl ?_
  refine P_aload_n d_169_0 rfl ?_
  refine A_gM d_169_1 cn_169 fk_CordLoft_35 k_0 hW hf (fun hk1 hf => ?_)
  refine P_iload_n d_169_4 rfl ?_
  refine A_V1 d_169_5 vk_169_136 ml_86 rfl hk1 hW rfl hf (fun r2 M3 hc hf => t_Plan_hasLamp hW hk1 hc (fun hW hb3 => ?_))
  refine A_if_ne (tgt := 13) d_169_8 rfl hf (fun hf => ?_) (fun hf => ?_)
  · refine P_aload_n d_169_13 rfl ?_
    refine P_aload_n d_169_14 rfl ?_
    refine A_gM d_169_15 cn_169 fk_CordLoft_35 k_0 hW hf (fun hk4 hf => ?_)
    refine A_gFr d_169_18 cn_169 fk_CordLoft_146 ft_5_4 hk4 hW ?_
    refine P_iload_n d_169_21 rfl ?_
    refine A_iald d_169_22 (kr_5_3 hk4) (lr_5_3 hk4) hW hf (fun hf => ?_)
    refine P_aload_n d_169_23 rfl ?_
    refine A_V0 d_169_24 vk_169_223 ml_129 rfl k_0 hW rfl hf (fun r6 M7 hc hf => t_C_freeCords hW  hc (fun hW => ?_))
    refine P_iand d_169_27 ?_
    refine A_V1 d_169_28 vk_169_293 ml_170 rfl k_0 hW rfl hf (fun r8 M9 hc hf => t_C_lampsTurnedBy hW  hc (fun hW => ?_))
    refine A_iconst d_169_31 ic_1 ?_
    refine P_iload_n d_169_32 rfl ?_
    refine P_ishl d_169_33 ?_
    refine A_iconst d_169_34 ic_m1 ?_
    refine P_ixor d_169_35 ?_
    refine P_iand d_169_36 ?_
    exact A_iret d_169_37 mr_169 hW hf k
  · refine A_iconst d_169_11 ic_m1 ?_
    exact A_iret d_169_12 mr_169 hW hf k
def f_C_alone  (M : AM) : Option (Int32 × AM) :=
  bnd (f_C_lampsTurnedBy 0 M) (fun r1 M2 => some (r1, M2))
set_option maxRecDepth 20000 in
theorem t_C_alone {G : GT} {d : Nat}  {M : AM} {Q : AM → Option Value → Prop} {r : Int32} {M' : AM} (hW : WT M)  (hf : f_C_alone  M = some (r, M')) (k : WT M' → Q M' (some (.int r)))  : Cal G (d + 3) 171 [.ref 0] M Q := by
  refine A_enter ml_171 rfl ?_
  refine P_aload_n d_171_0 rfl ?_
  refine A_iconst d_171_1 ic_0 ?_
  refine A_V1 d_171_2 vk_171_293 ml_170 rfl k_0 hW rfl hf (fun r1 M2 hc hf => t_C_lampsTurnedBy hW  hc (fun hW => ?_))
  exact A_iret d_171_5 mr_171 hW hf k
end
