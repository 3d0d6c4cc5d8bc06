noncomputable section
def f_Mo_steady_b48 (rec : Int32 → AM → Option (Int32 × AM)) (v1 : Int32) (v2 : Int32) (v3 : Int32) (M : AM) : Option (Int32 × AM) :=
  bnd (f_Mo_isTied v3 M) (fun r1 M2 => if r1 = 0 then ald 8 M2 121 v3 (fun x3 => ald 256 M2 127 (v2 ^^^ x3) (fun x4 => ald 256 M2 127 v2 (fun x5 => if x4 = (x5 - 1) then ald 8 M2 121 v3 (fun x6 => bnd (f_Mo_members (v2 ^^^ x6) M2) (fun r7 M8 => if (gI M8 105 44) ≤ r7 then some (v3, M8) else rec (v3 + 1) M8)) else rec (v3 + 1) M2))) else rec (v3 + 1) M2)
def f_Mo_steady_l48 (v1 : Int32) (v2 : Int32) : Nat → Int32 → AM → Option (Int32 × AM)
  | 0, _, _ => none
  | n + 1, v3, M => f_Mo_steady_b48 (f_Mo_steady_l48 v1 v2 n) v1 v2 v3 M
set_option maxRecDepth 20000 in
theorem t_Mo_steady_b48 {G : GT} {d : Nat} {v1 : Int32} {v2 : Int32} {v3 : Int32} {M : AM} {Q : AM → Option Value → Prop} {yo : Int32} {Mo : AM} {rec : Int32 → AM → Option (Int32 × AM)} (hrec : ∀ (v3 : Int32) (M : AM), WT M → rec v3 M = some (yo, Mo) → PW G (d + 3) 289 48 [.ref 105, .int v1, .int v2, .int v3] [] M 0 0 Q) (k1 : WT Mo → PW G (d + 3) 289 104 [.ref 105, .int v1, .int v2, .int yo] [] Mo 0 0 Q) (hW : WT M)   (hf : f_Mo_steady_b48 rec v1 v2 v3 M = some (yo, Mo)) : PW G (d + 3) 289 48 [.ref 105, .int v1, .int v2, .int v3] [] M 0 0 Q := by
  refine P_aload_n d_289_48 rfl ?_
  refine P_iload_n d_289_49 rfl ?_
  refine A_V1 d_289_50 vk_289_408 ml_249 rfl k_105 hW rfl hf (fun r1 M2 hc hf => t_Mo_isTied hW  hc (fun hW hb2 => ?_))
  refine A_if_ne (tgt := 98) d_289_53 rfl hf (fun hf => ?_) (fun hf => ?_)
  · refine A_iinc d_289_98 ic_1 rfl ml_289 rfl rfl ?_
    refine P_goto (tgt := 48) d_289_101 rfl ?_
    exact hrec _ _ hW  hf
  · refine P_aload_n d_289_56 rfl ?_
    refine A_gF d_289_57 cn_289 fk_CordLoftModel_79 ft_13_57 k_105 hW ?_
    refine P_iload_n d_289_60 rfl ?_
    refine P_aload_n d_289_61 rfl ?_
    refine A_gF d_289_62 cn_289 fk_CordLoftModel_60 ft_13_33 k_105 hW ?_
    refine P_iload_n d_289_65 rfl ?_
    refine A_iald d_289_66 k_121 l_121 hW hf (fun hf => ?_)
    refine P_ixor d_289_67 ?_
    refine A_iald d_289_68 k_127 l_127 hW hf (fun hf => ?_)
    refine P_aload_n d_289_69 rfl ?_
    refine A_gF d_289_70 cn_289 fk_CordLoftModel_79 ft_13_57 k_105 hW ?_
    refine P_iload_n d_289_73 rfl ?_
    refine A_iald d_289_74 k_127 l_127 hW hf (fun hf => ?_)
    refine A_iconst d_289_75 ic_1 ?_
    refine P_isub d_289_76 ?_
    refine A_icmp_ne (tgt := 98) d_289_77 rfl hf (fun hf => ?_) (fun hf => ?_)
    · refine A_iinc d_289_98 ic_1 rfl ml_289 rfl rfl ?_
      refine P_goto (tgt := 48) d_289_101 rfl ?_
      exact hrec _ _ hW  hf
    · refine P_iload_n d_289_80 rfl ?_
      refine P_aload_n d_289_81 rfl ?_
      refine A_gF d_289_82 cn_289 fk_CordLoftModel_60 ft_13_33 k_105 hW ?_
      refine P_iload_n d_289_85 rfl ?_
      refine A_iald d_289_86 k_121 l_121 hW hf (fun hf => ?_)
      refine P_ixor d_289_87 ?_
      refine A_S1 d_289_88 sk_289_290 ml_250 rfl rfl hf (fun r7 M8 hc hf => t_Mo_members hW  hc (fun hW => ?_))
      refine P_aload_n d_289_91 rfl ?_
      refine A_gI d_289_92 cn_289 fk_CordLoftModel_375 k_105 hW ?_
      refine A_icmp_ge (tgt := 104) d_289_95 rfl hf (fun hf => ?_) (fun hf => ?_)
      · cases hf
        exact k1 hW 
      · refine A_iinc d_289_98 ic_1 rfl ml_289 rfl rfl ?_
        refine P_goto (tgt := 48) d_289_101 rfl ?_
        exact hrec _ _ hW  hf
theorem t_Mo_steady_l48 {G : GT} {d : Nat} {v1 : Int32} {v2 : Int32} {Q : AM → Option Value → Prop} {yo : Int32} {Mo : AM} (k1 : WT Mo → PW G (d + 3) 289 104 [.ref 105, .int v1, .int v2, .int yo] [] Mo 0 0 Q)  : ∀ (z : Nat) (v3 : Int32) (M : AM), WT M → f_Mo_steady_l48 v1 v2 z v3 M = some (yo, Mo) → PW G (d + 3) 289 48 [.ref 105, .int v1, .int v2, .int v3] [] M 0 0 Q := by
  intro z
  induction z with
  | zero => intro v3 M hW hf; cases hf
  | succ z ih => intro v3 M hW hf; exact t_Mo_steady_b48 (fun v3 M hW hf => ih v3 M hW hf) k1 hW   hf
def f_Mo_steady_b41 (rec : Int32 → AM → Option (Unit × AM)) (v1 : Int32) (v2 : Int32) (M : AM) : Option (Unit × AM) :=
  if v2 = v1 then some ((), M) else bnd (f_Mo_steady_l48 v1 v2 fu 0 M) (fun y1 M2 => ast 256 M2 126 (gI M2 105 59) y1 (fun M3 => wI M3 105 59 ((gI M3 105 59) + 1) (fun M4 => ald 8 M4 121 y1 (fun x5 => rec (v2 ^^^ x5) M4))))
def f_Mo_steady_l41 (v1 : Int32) : Nat → Int32 → AM → Option (Unit × AM)
  | 0, _, _ => none
  | n + 1, v2, M => f_Mo_steady_b41 (f_Mo_steady_l41 v1 n) v1 v2 M
set_option maxRecDepth 20000 in
theorem t_Mo_steady_b41 {G : GT} {d : Nat} {v1 : Int32} {v2 : Int32} {M : AM} {Q : AM → Option Value → Prop} {yo : Unit} {Mo : AM} {rec : Int32 → AM → Option (Unit × AM)} (hrec : ∀ (v2 : Int32) (M : AM), WT M → rec v2 M = some (yo, Mo) → PW G (d + 3) 289 41 [.ref 105, .int v1, .int v2, ux] [] M 0 0 Q) (k1 : WT Mo → PW G (d + 3) 289 136 [.ref 105, ux, ux, ux] [] Mo 0 0 Q) (hW : WT M)   (hf : f_Mo_steady_b41 rec v1 v2 M = some (yo, Mo)) : PW G (d + 3) 289 41 [.ref 105, .int v1, .int v2, ux] [] M 0 0 Q := by
  refine P_iload_n d_289_41 rfl ?_
  refine P_iload_n d_289_42 rfl ?_
  refine A_icmp_eq (tgt := 136) d_289_43 rfl hf (fun hf => ?_) (fun hf => ?_)
  · refine P_fgt [true, false, false, false] ?_
    cases hf
    exact k1 hW 
  · refine A_iconst d_289_46 ic_0 ?_
    refine A_istore_n d_289_47 ml_289 rfl rfl ?_
    obtain ⟨y1, M2, hl, hf⟩ := bnd_some hf
    refine t_Mo_steady_l48 (fun hW => ?_)  fu _ _ hW  hl
    refine P_aload_n d_289_104 rfl ?_
    refine A_gF d_289_105 cn_289 fk_CordLoftModel_76 ft_13_56 k_105 hW ?_
    refine P_aload_n d_289_108 rfl ?_
    refine A_gI d_289_109 cn_289 fk_CordLoftModel_396 k_105 hW ?_
    refine P_iload_n d_289_112 rfl ?_
    refine A_iast d_289_113 k_126 l_126 hW hf (fun hW hf => ?_)
    refine P_aload_n d_289_114 rfl ?_
    refine P_dup d_289_115 rfl ?_
    refine A_gI d_289_116 cn_289 fk_CordLoftModel_396 k_105 hW ?_
    refine A_iconst d_289_119 ic_1 ?_
    refine P_iadd d_289_120 ?_
    refine A_pI d_289_121 cn_289 fp_CordLoftModel_396 k_105 hW hf (fun hW hf => ?_)
    refine P_iload_n d_289_124 rfl ?_
    refine P_aload_n d_289_125 rfl ?_
    refine A_gF d_289_126 cn_289 fk_CordLoftModel_60 ft_13_33 k_105 hW ?_
    refine P_iload_n d_289_129 rfl ?_
    refine A_iald d_289_130 k_121 l_121 hW hf (fun hf => ?_)
    refine P_ixor d_289_131 ?_
    refine A_istore_n d_289_132 ml_289 rfl rfl ?_
    refine P_goto (tgt := 41) d_289_133 rfl ?_
    refine P_fgt [true, true, true, false] ?_
    exact hrec _ _ hW  hf
theorem t_Mo_steady_l41 {G : GT} {d : Nat} {v1 : Int32} {Q : AM → Option Value → Prop} {yo : Unit} {Mo : AM} (k1 : WT Mo → PW G (d + 3) 289 136 [.ref 105, ux, ux, ux] [] Mo 0 0 Q)  : ∀ (z : Nat) (v2 : Int32) (M : AM), WT M → f_Mo_steady_l41 v1 z v2 M = some (yo, Mo) → PW G (d + 3) 289 41 [.ref 105, .int v1, .int v2, ux] [] M 0 0 Q := by
  intro z
  induction z with
  | zero => intro v2 M hW hf; cases hf
  | succ z ih => intro v2 M hW hf; exact t_Mo_steady_b41 (fun v2 M hW hf => ih v2 M hW hf) k1 hW   hf
def f_Mo_steady (a1 : Int32) (M : AM) : Option (Int32 × AM) :=
  wI M 105 59 0 (fun M1 => bnd (f_Mo_isPicture a1 M1) (fun r2 M3 => if r2 = 0 then some ((-1), M3) else bnd (f_Mo_layFar a1 M3) (fun r4 M5 => ald 5 M5 123 0 (fun x6 => ald 256 M5 127 x6 (fun x7 => if x7 = 1000000 then some ((-1), M5) else bnd (f_Mo_steady_l41 a1 fu x6 M5) (fun y8 M9 => some (gI M9 105 59, M9)))))))
set_option maxRecDepth 20000 in
theorem t_Mo_steady {G : GT} {d : Nat} {a1 : Int32} {M : AM} {Q : AM → Option Value → Prop} {r : Int32} {M' : AM} (hW : WT M)  (hf : f_Mo_steady a1 M = some (r, M')) (k : WT M' → Q M' (some (.int r)))  : Cal G (d + 3) 289 [.ref 105, .int a1] M Q := by
  refine A_enter ml_289 rfl ?_
  refine P_aload_n d_289_0 rfl ?_
  refine A_iconst d_289_1 ic_0 ?_
  refine A_pI d_289_2 cn_289 fp_CordLoftModel_396 k_105 hW hf (fun hW hf => ?_)
  refine P_aload_n d_289_5 rfl ?_
  refine P_iload_n d_289_6 rfl ?_
  refine A_V1 d_289_7 vk_289_438 ml_266 rfl k_105 hW rfl hf (fun r2 M3 hc hf => t_Mo_isPicture hW  hc (fun hW hb3 => ?_))
  refine A_if_ne (tgt := 15) d_289_10 rfl hf (fun hf => ?_) (fun hf => ?_)
  · refine P_aload_n d_289_15 rfl ?_
    refine P_iload_n d_289_16 rfl ?_
    refine A_V1 d_289_17 vk_289_467 ml_290 rfl k_105 hW rfl hf (fun r4 M5 hc hf => t_Mo_layFar hW  hc (fun hW => ?_))
    refine P_aload_n d_289_20 rfl ?_
    refine A_gF d_289_21 cn_289 fk_CordLoftModel_66 ft_13_50 k_105 hW ?_
    refine A_iconst d_289_24 ic_0 ?_
    refine A_iald d_289_25 k_123 l_123 hW hf (fun hf => ?_)
    refine A_istore_n d_289_26 ml_289 rfl rfl ?_
    refine P_aload_n d_289_27 rfl ?_
    refine A_gF d_289_28 cn_289 fk_CordLoftModel_79 ft_13_57 k_105 hW ?_
    refine P_iload_n d_289_31 rfl ?_
    refine A_iald d_289_32 k_127 l_127 hW hf (fun hf => ?_)
    refine A_ldcw d_289_33 cn_289 cw_CordLoftModel_466 ?_
    refine A_icmp_ne (tgt := 41) d_289_36 rfl hf (fun hf => ?_) (fun hf => ?_)
    · obtain ⟨y8, M9, hl, hf⟩ := bnd_some hf
      refine t_Mo_steady_l41 (fun hW => ?_)  fu _ _ hW  hl
      refine P_aload_n d_289_136 rfl ?_
      refine A_gI d_289_137 cn_289 fk_CordLoftModel_396 k_105 hW ?_
      exact A_iret d_289_140 mr_289 hW hf k
    · refine A_iconst d_289_39 ic_m1 ?_
      exact A_iret d_289_40 mr_289 hW hf k
  · refine A_iconst d_289_13 ic_m1 ?_
    exact A_iret d_289_14 mr_289 hW hf k
def f_Mo_rows (a1 : Int32) (M : AM) : Option (Int32 × AM) :=
  bnd (f_Mo_isPicture a1 M) (fun r1 M2 => if r1 = 0 then some (0, M2) else bnd (f_Mo_layFar a1 M2) (fun r3 M4 => ald 5 M4 123 0 (fun x5 => ald 256 M4 128 x5 (fun x6 => some (x6, M4)))))
set_option maxRecDepth 20000 in
theorem t_Mo_rows {G : GT} {d : Nat} {a1 : Int32} {M : AM} {Q : AM → Option Value → Prop} {r : Int32} {M' : AM} (hW : WT M)  (hf : f_Mo_rows a1 M = some (r, M')) (k : WT M' → Q M' (some (.int r)))  : Cal G (d + 3) 291 [.ref 105, .int a1] M Q := by
  refine A_enter ml_291 rfl ?_
  refine P_aload_n d_291_0 rfl ?_
  refine P_iload_n d_291_1 rfl ?_
  refine A_V1 d_291_2 vk_291_438 ml_266 rfl k_105 hW rfl hf (fun r1 M2 hc hf => t_Mo_isPicture hW  hc (fun hW hb2 => ?_))
  refine A_if_ne (tgt := 10) d_291_5 rfl hf (fun hf => ?_) (fun hf => ?_)
  · refine P_aload_n d_291_10 rfl ?_
    refine P_iload_n d_291_11 rfl ?_
    refine A_V1 d_291_12 vk_291_467 ml_290 rfl k_105 hW rfl hf (fun r3 M4 hc hf => t_Mo_layFar hW  hc (fun hW => ?_))
    refine P_aload_n d_291_15 rfl ?_
    refine A_gF d_291_16 cn_291 fk_CordLoftModel_82 ft_13_58 k_105 hW ?_
    refine P_aload_n d_291_19 rfl ?_
    refine A_gF d_291_20 cn_291 fk_CordLoftModel_66 ft_13_50 k_105 hW ?_
    refine A_iconst d_291_23 ic_0 ?_
    refine A_iald d_291_24 k_123 l_123 hW hf (fun hf => ?_)
    refine A_iald d_291_25 k_128 l_128 hW hf (fun hf => ?_)
    exact A_iret d_291_26 mr_291 hW hf k
  · refine A_iconst d_291_8 ic_0 ?_
    exact A_iret d_291_9 mr_291 hW hf k
def f_Mo_layGame_j124 (rec : Int32 → AM → Option (Unit × AM)) (v1 : Int32) (v2 : Int32) (v3 : Int32) (v5 : Int32) (M : AM) : Option (Unit × AM) :=
  ast 256 M 129 v2 v5 (fun M1 => ast 256 M1 130 v2 v3 (fun M2 => rec (v3 + 1) M2))
set_option maxRecDepth 20000 in
theorem t_Mo_layGame_j124 {G : GT} {d : Nat} {v1 : Int32} {v2 : Int32} {v3 : Int32} {v5 : Int32} {M : AM} {Q : AM → Option Value → Prop} {yo : Unit} {Mo : AM} {rec : Int32 → AM → Option (Unit × AM)} (hrec : ∀ (v3 : Int32) (M : AM), WT M → rec v3 M = some (yo, Mo) → PW G (d + 2) 293 38 [.ref 105, .int v1, .int v2, .int v3, ux, ux] [] M 0 0 Q) (k1 : WT Mo → PW G (d + 2) 293 145 [.ref 105, .int v1, .int v2, ux, ux, ux] [] Mo 0 0 Q) (hW : WT M)  (hf : f_Mo_layGame_j124 rec v1 v2 v3 v5 M = some (yo, Mo)) : PW G (d + 2) 293 124 [.ref 105, .int v1, .int v2, .int v3, ux, .int v5] [] M 0 0 Q := by
  refine P_aload_n d_293_124 rfl ?_
  refine A_gF d_293_125 cn_293 fk_CordLoftModel_85 ft_13_60 k_105 hW ?_
  refine P_iload_n d_293_128 rfl ?_
  refine P_iload d_293_129 rfl ?_
  refine A_iast d_293_131 k_129 l_129 hW hf (fun hW hf => ?_)
  refine P_aload_n d_293_132 rfl ?_
  refine A_gF d_293_133 cn_293 fk_CordLoftModel_88 ft_13_61 k_105 hW ?_
  refine P_iload_n d_293_136 rfl ?_
  refine P_iload_n d_293_137 rfl ?_
  refine A_iast d_293_138 k_130 l_130 hW hf (fun hW hf => ?_)
  refine A_iinc d_293_139 ic_1 rfl ml_293 rfl rfl ?_
  refine P_goto (tgt := 38) d_293_142 rfl ?_
  refine P_fgt [true, true, true, true, false, false] ?_
  exact hrec _ _ hW  hf
def f_Mo_layGame_j99 (rec : Int32 → AM → Option (Unit × AM)) (v1 : Int32) (v2 : Int32) (v3 : Int32) (s0 : Int32) (M : AM) : Option (Unit × AM) :=
  ald 256 M 130 v2 (fun x1 => if x1 < 0 then f_Mo_layGame_j124 rec v1 v2 v3 s0 M else ald 256 M 129 v2 (fun x2 => if x2 < s0 then f_Mo_layGame_j124 rec v1 v2 v3 s0 M else rec (v3 + 1) M))
set_option maxRecDepth 20000 in
theorem t_Mo_layGame_j99 {G : GT} {d : Nat} {v1 : Int32} {v2 : Int32} {v3 : Int32} {s0 : Int32} {M : AM} {Q : AM → Option Value → Prop} {yo : Unit} {Mo : AM} {rec : Int32 → AM → Option (Unit × AM)} (hrec : ∀ (v3 : Int32) (M : AM), WT M → rec v3 M = some (yo, Mo) → PW G (d + 2) 293 38 [.ref 105, .int v1, .int v2, .int v3, ux, ux] [] M 0 0 Q) (k1 : WT Mo → PW G (d + 2) 293 145 [.ref 105, .int v1, .int v2, ux, ux, ux] [] Mo 0 0 Q) (hW : WT M)  (hf : f_Mo_layGame_j99 rec v1 v2 v3 s0 M = some (yo, Mo)) : PW G (d + 2) 293 99 [.ref 105, .int v1, .int v2, .int v3, ux, ux] [.int s0] M 0 0 Q := by
  refine A_istore d_293_99 ml_293 rfl rfl ?_
  refine P_aload_n d_293_101 rfl ?_
  refine A_gF d_293_102 cn_293 fk_CordLoftModel_88 ft_13_61 k_105 hW ?_
  refine P_iload_n d_293_105 rfl ?_
  refine A_iald d_293_106 k_130 l_130 hW hf (fun hf => ?_)
  refine A_if_lt (tgt := 124) d_293_107 rfl hf (fun hf => ?_) (fun hf => ?_)
  · exact t_Mo_layGame_j124 hrec k1 hW  hf
  · refine P_iload d_293_110 rfl ?_
    refine P_aload_n d_293_112 rfl ?_
    refine A_gF d_293_113 cn_293 fk_CordLoftModel_85 ft_13_60 k_105 hW ?_
    refine P_iload_n d_293_116 rfl ?_
    refine A_iald d_293_117 k_129 l_129 hW hf (fun hf => ?_)
    refine A_icmp_gt (tgt := 124) d_293_118 rfl hf (fun hf => ?_) (fun hf => ?_)
    · exact t_Mo_layGame_j124 hrec k1 hW  hf
    · refine P_goto (tgt := 139) d_293_121 rfl ?_
      refine A_iinc d_293_139 ic_1 rfl ml_293 rfl rfl ?_
      refine P_goto (tgt := 38) d_293_142 rfl ?_
      refine P_fgt [true, true, true, true, false, false] ?_
      exact hrec _ _ hW  hf
def f_Mo_layGame_b38 (rec : Int32 → AM → Option (Unit × AM)) (v1 : Int32) (v2 : Int32) (v3 : Int32) (M : AM) : Option (Unit × AM) :=
  if (gI M 105 42) ≤ v3 then some ((), M) else if (v2 ||| ((1 : Int32) <<< (v3 &&& 31))) = v2 then rec (v3 + 1) M else bnd (f_Mo_isWithin (v2 ||| ((1 : Int32) <<< (v3 &&& 31))) v1 M) (fun r1 M2 => if r1 = 0 then rec (v3 + 1) M2 else ald 5 M2 123 0 (fun x3 => bnd (f_Mo_turnedBy (v2 ||| ((1 : Int32) <<< (v3 &&& 31))) M2) (fun r4 M5 => if (x3 ^^^ r4) = 0 then f_Mo_layGame_j99 rec v1 v2 v3 1 M5 else ald 256 M5 129 (v2 ||| ((1 : Int32) <<< (v3 &&& 31))) (fun x6 => f_Mo_layGame_j99 rec v1 v2 v3 (-x6) M5))))
def f_Mo_layGame_l38 (v1 : Int32) (v2 : Int32) : Nat → Int32 → AM → Option (Unit × AM)
  | 0, _, _ => none
  | n + 1, v3, M => f_Mo_layGame_b38 (f_Mo_layGame_l38 v1 v2 n) v1 v2 v3 M
set_option maxRecDepth 20000 in
theorem t_Mo_layGame_b38 {G : GT} {d : Nat} {v1 : Int32} {v2 : Int32} {v3 : Int32} {M : AM} {Q : AM → Option Value → Prop} {yo : Unit} {Mo : AM} {rec : Int32 → AM → Option (Unit × AM)} (hrec : ∀ (v3 : Int32) (M : AM), WT M → rec v3 M = some (yo, Mo) → PW G (d + 2) 293 38 [.ref 105, .int v1, .int v2, .int v3, ux, ux] [] M 0 0 Q) (k1 : WT Mo → PW G (d + 2) 293 145 [.ref 105, .int v1, .int v2, ux, ux, ux] [] Mo 0 0 Q) (hW : WT M)   (hf : f_Mo_layGame_b38 rec v1 v2 v3 M = some (yo, Mo)) : PW G (d + 2) 293 38 [.ref 105, .int v1, .int v2, .int v3, ux, ux] [] M 0 0 Q := by
  refine P_iload_n d_293_38 rfl ?_
  refine P_aload_n d_293_39 rfl ?_
  refine A_gI d_293_40 cn_293 fk_CordLoftModel_369 k_105 hW ?_
  refine A_icmp_ge (tgt := 145) d_293_43 rfl hf (fun hf => ?_) (fun hf => ?_)
  · refine P_fgt [true, true, true, false, false, false] ?_
    cases hf
    exact k1 hW 
  · refine P_iload_n d_293_46 rfl ?_
    refine A_iconst d_293_47 ic_1 ?_
    refine P_iload_n d_293_48 rfl ?_
    refine P_ishl d_293_49 ?_
    refine P_ior d_293_50 ?_
    refine A_istore d_293_51 ml_293 rfl rfl ?_
    refine P_iload d_293_53 rfl ?_
    refine P_iload_n d_293_55 rfl ?_
    refine A_icmp_eq (tgt := 139) d_293_56 rfl hf (fun hf => ?_) (fun hf => ?_)
    · refine A_iinc d_293_139 ic_1 rfl ml_293 rfl rfl ?_
      refine P_goto (tgt := 38) d_293_142 rfl ?_
      refine P_fgt [true, true, true, true, false, false] ?_
      exact hrec _ _ hW  hf
    · refine P_iload d_293_59 rfl ?_
      refine P_iload_n d_293_61 rfl ?_
      refine A_S2 d_293_62 sk_293_432 ml_269 rfl rfl hf (fun r1 M2 hc hf => t_Mo_isWithin hW  hc (fun hW hb2 => ?_))
      refine A_if_ne (tgt := 71) d_293_65 rfl hf (fun hf => ?_) (fun hf => ?_)
      · refine P_aload_n d_293_71 rfl ?_
        refine A_gF d_293_72 cn_293 fk_CordLoftModel_66 ft_13_50 k_105 hW ?_
        refine A_iconst d_293_75 ic_0 ?_
        refine A_iald d_293_76 k_123 l_123 hW hf (fun hf => ?_)
        refine P_aload_n d_293_77 rfl ?_
        refine P_iload d_293_78 rfl ?_
        refine A_V1 d_293_80 vk_293_435 ml_270 rfl k_105 hW rfl hf (fun r4 M5 hc hf => t_Mo_turnedBy hW  hc (fun hW => ?_))
        refine P_ixor d_293_83 ?_
        refine A_if_ne (tgt := 91) d_293_84 rfl hf (fun hf => ?_) (fun hf => ?_)
        · refine P_aload_n d_293_91 rfl ?_
          refine A_gF d_293_92 cn_293 fk_CordLoftModel_85 ft_13_60 k_105 hW ?_
          refine P_iload d_293_95 rfl ?_
          refine A_iald d_293_97 k_129 l_129 hW hf (fun hf => ?_)
          refine P_ineg d_293_98 ?_
          refine P_fgt [true, true, true, true, false, false] ?_
          exact t_Mo_layGame_j99 hrec k1 hW  hf
        · refine A_iconst d_293_87 ic_1 ?_
          refine P_goto (tgt := 99) d_293_88 rfl ?_
          refine P_fgt [true, true, true, true, false, false] ?_
          exact t_Mo_layGame_j99 hrec k1 hW  hf
      · refine P_goto (tgt := 139) d_293_68 rfl ?_
        refine A_iinc d_293_139 ic_1 rfl ml_293 rfl rfl ?_
        refine P_goto (tgt := 38) d_293_142 rfl ?_
        refine P_fgt [true, true, true, true, false, false] ?_
        exact hrec _ _ hW  hf
theorem t_Mo_layGame_l38 {G : GT} {d : Nat} {v1 : Int32} {v2 : Int32} {Q : AM → Option Value → Prop} {yo : Unit} {Mo : AM} (k1 : WT Mo → PW G (d + 2) 293 145 [.ref 105, .int v1, .int v2, ux, ux, ux] [] Mo 0 0 Q)  : ∀ (z : Nat) (v3 : Int32) (M : AM), WT M → f_Mo_layGame_l38 v1 v2 z v3 M = some (yo, Mo) → PW G (d + 2) 293 38 [.ref 105, .int v1, .int v2, .int v3, ux, ux] [] M 0 0 Q := by
  intro z
  induction z with
  | zero => intro v3 M hW hf; cases hf
  | succ z ih => intro v3 M hW hf; exact t_Mo_layGame_b38 (fun v3 M hW hf => ih v3 M hW hf) k1 hW   hf
def f_Mo_layGame_b7 (rec : Int32 → AM → Option (Unit × AM)) (v1 : Int32) (v2 : Int32) (M : AM) : Option (Unit × AM) :=
  if v2 < 0 then some ((), M) else bnd (f_Mo_isWithin v2 v1 M) (fun r1 M2 => if r1 = 0 then rec (v2 + (-1)) M2 else ast 256 M2 129 v2 0 (fun M3 => ast 256 M3 130 v2 (-1) (fun M4 => bnd (f_Mo_layGame_l38 v1 v2 fu 0 M4) (fun y5 M6 => rec (v2 + (-1)) M6))))
def f_Mo_layGame_l7 (v1 : Int32) : Nat → Int32 → AM → Option (Unit × AM)
  | 0, _, _ => none
  | n + 1, v2, M => f_Mo_layGame_b7 (f_Mo_layGame_l7 v1 n) v1 v2 M
set_option maxRecDepth 20000 in
theorem t_Mo_layGame_b7 {G : GT} {d : Nat} {v1 : Int32} {v2 : Int32} {M : AM} {Q : AM → Option Value → Prop} {yo : Unit} {Mo : AM} {rec : Int32 → AM → Option (Unit × AM)} (hrec : ∀ (v2 : Int32) (M : AM), WT M → rec v2 M = some (yo, Mo) → PW G (d + 2) 293 7 [.ref 105, .int v1, .int v2, ux, ux, ux] [] M 0 0 Q) (k1 : WT Mo → PW G (d + 2) 293 151 [ux, ux, ux, ux, ux, ux] [] Mo 0 0 Q) (hW : WT M)   (hf : f_Mo_layGame_b7 rec v1 v2 M = some (yo, Mo)) : PW G (d + 2) 293 7 [.ref 105, .int v1, .int v2, ux, ux, ux] [] M 0 0 Q := by
  refine P_iload_n d_293_7 rfl ?_
  refine A_if_lt (tgt := 151) d_293_8 rfl hf (fun hf => ?_) (fun hf => ?_)
  · refine P_fgt [false, false, false, false, false, false] ?_
    cases hf
    exact k1 hW 
  · refine P_iload_n d_293_11 rfl ?_
    refine P_iload_n d_293_12 rfl ?_
    refine A_S2 d_293_13 sk_293_432 ml_269 rfl rfl hf (fun r1 M2 hc hf => t_Mo_isWithin hW  hc (fun hW hb2 => ?_))
    refine A_if_ne (tgt := 22) d_293_16 rfl hf (fun hf => ?_) (fun hf => ?_)
    · refine P_aload_n d_293_22 rfl ?_
      refine A_gF d_293_23 cn_293 fk_CordLoftModel_85 ft_13_60 k_105 hW ?_
      refine P_iload_n d_293_26 rfl ?_
      refine A_iconst d_293_27 ic_0 ?_
      refine A_iast d_293_28 k_129 l_129 hW hf (fun hW hf => ?_)
      refine P_aload_n d_293_29 rfl ?_
      refine A_gF d_293_30 cn_293 fk_CordLoftModel_88 ft_13_61 k_105 hW ?_
      refine P_iload_n d_293_33 rfl ?_
      refine A_iconst d_293_34 ic_m1 ?_
      refine A_iast d_293_35 k_130 l_130 hW hf (fun hW hf => ?_)
      refine A_iconst d_293_36 ic_0 ?_
      refine A_istore_n d_293_37 ml_293 rfl rfl ?_
      obtain ⟨y5, M6, hl, hf⟩ := bnd_some hf
      refine t_Mo_layGame_l38 (fun hW => ?_)  fu _ _ hW  hl
      refine A_iinc d_293_145 ic_m1 rfl ml_293 rfl rfl ?_
      refine P_goto (tgt := 7) d_293_148 rfl ?_
      exact hrec _ _ hW  hf
    · refine P_goto (tgt := 145) d_293_19 rfl ?_
      refine A_iinc d_293_145 ic_m1 rfl ml_293 rfl rfl ?_
      refine P_goto (tgt := 7) d_293_148 rfl ?_
      exact hrec _ _ hW  hf
theorem t_Mo_layGame_l7 {G : GT} {d : Nat} {v1 : Int32} {Q : AM → Option Value → Prop} {yo : Unit} {Mo : AM} (k1 : WT Mo → PW G (d + 2) 293 151 [ux, ux, ux, ux, ux, ux] [] Mo 0 0 Q)  : ∀ (z : Nat) (v2 : Int32) (M : AM), WT M → f_Mo_layGame_l7 v1 z v2 M = some (yo, Mo) → PW G (d + 2) 293 7 [.ref 105, .int v1, .int v2, ux, ux, ux] [] M 0 0 Q := by
  intro z
  induction z with
  | zero => intro v2 M hW hf; cases hf
  | succ z ih => intro v2 M hW hf; exact t_Mo_layGame_b7 (fun v2 M hW hf => ih v2 M hW hf) k1 hW   hf
def f_Mo_layGame  (M : AM) : Option (Unit × AM) :=
  bnd (f_Mo_free  M) (fun r1 M2 => bnd (f_Mo_layGame_l7 r1 fu r1 M2) (fun y3 M4 => some ((), M4)))
set_option maxRecDepth 20000 in
theorem t_Mo_layGame {G : GT} {d : Nat}  {M : AM} {Q : AM → Option Value → Prop} {r : Unit} {M' : AM} (hW : WT M)  (hf : f_Mo_layGame  M = some (r, M')) (k : WT M' → Q M' none)  : Cal G (d + 2) 293 [.ref 105] M Q := by
  refine A_enter ml_293 rfl ?_
  refine P_aload_n d_293_0 rfl ?_
  refine A_V0 d_293_1 vk_293_429 ml_268 rfl k_105 hW rfl hf (fun r1 M2 hc hf => t_Mo_free hW  hc (fun hW => ?_))
  refine A_istore_n d_293_4 ml_293 rfl rfl ?_
  refine P_iload_n d_293_5 rfl ?_
  refine A_istore_n d_293_6 ml_293 rfl rfl ?_
  obtain ⟨y3, M4, hl, hf⟩ := bnd_some hf
  refine t_Mo_layGame_l7 (fun hW => ?_)  fu _ _ hW  hl
  exact A_ret d_293_151 mr_293 hW hf k
def f_Mo_game (a1 : Int32) (M : AM) : Option (Int32 × AM) :=
  bnd (f_Mo_layGame  M) (fun r1 M2 => if a1 = 0 then ald 256 M2 129 0 (fun x4 => some (x4, M2)) else if a1 = 1 then ald 256 M2 130 0 (fun x3 => some (x3, M2)) else some ((-1), M2))
set_option maxRecDepth 20000 in
theorem t_Mo_game {G : GT} {d : Nat} {a1 : Int32} {M : AM} {Q : AM → Option Value → Prop} {r : Int32} {M' : AM} (hW : WT M)  (hf : f_Mo_game a1 M = some (r, M')) (k : WT M' → Q M' (some (.int r)))  : Cal G (d + 3) 292 [.ref 105, .int a1] M Q := by
  refine A_enter ml_292 rfl ?_
  refine P_aload_n d_292_0 rfl ?_
  refine A_V0 d_292_1 vk_292_470 ml_293 rfl k_105 hW rfl hf (fun r1 M2 hc hf => t_Mo_layGame hW  hc (fun hW => ?_))
  refine P_iload_n d_292_4 rfl ?_
  refine A_if_ne (tgt := 17) d_292_5 rfl hf (fun hf => ?_) (fun hf => ?_)
  · refine P_iload_n d_292_17 rfl ?_
    refine A_iconst d_292_18 ic_1 ?_
    refine A_icmp_ne (tgt := 31) d_292_19 rfl hf (fun hf => ?_) (fun hf => ?_)
    · refine A_iconst d_292_31 ic_m1 ?_
      exact A_iret d_292_32 mr_292 hW hf k
    · refine P_aload_n d_292_22 rfl ?_
      refine A_gF d_292_23 cn_292 fk_CordLoftModel_88 ft_13_61 k_105 hW ?_
      refine A_iconst d_292_26 ic_0 ?_
      refine A_iald d_292_27 k_130 l_130 hW hf (fun hf => ?_)
      refine P_goto (tgt := 32) d_292_28 rfl ?_
      exact A_iret d_292_32 mr_292 hW hf k
  · refine P_aload_n d_292_8 rfl ?_
    refine A_gF d_292_9 cn_292 fk_CordLoftModel_85 ft_13_60 k_105 hW ?_
    refine A_iconst d_292_12 ic_0 ?_
    refine A_iald d_292_13 k_129 l_129 hW hf (fun hf => ?_)
    refine P_goto (tgt := 32) d_292_14 rfl ?_
    exact A_iret d_292_32 mr_292 hW hf k
def f_Mo_again_b42 (rec : Int32 → Int32 → AM → Option ((Unit × AM) ⊕ (Int32 × AM))) (v1 : Int32) (v2 : Int32) (v3 : Int32) (M : AM) : Option ((Unit × AM) ⊕ (Int32 × AM)) :=
  if 300 < v3 then some (.inl ((), M)) else ald 256 M 131 v2 (fun x1 => if x1 < 0 then ast 256 M 131 v2 v3 (fun M2 => ald 5 M2 123 3 (fun x3 => bnd (f_Mo_duskOf v2 (x3 + v3) M2) (fun r4 M5 => rec r4 (v3 + 1) M5))) else if v1 = 0 then some (.inr (v3, M)) else ald 256 M 131 v2 (fun x6 => some (.inr (x6, M))))
def f_Mo_again_l42 (v1 : Int32) : Nat → Int32 → Int32 → AM → Option ((Unit × AM) ⊕ (Int32 × AM))
  | 0, _, _, _ => none
  | n + 1, v2, v3, M => f_Mo_again_b42 (f_Mo_again_l42 v1 n) v1 v2 v3 M
set_option maxRecDepth 20000 in
theorem t_Mo_again_b42 {G : GT} {d : Nat} {v1 : Int32} {v2 : Int32} {v3 : Int32} {M : AM} {Q : AM → Option Value → Prop} {o : (Unit × AM) ⊕ (Int32 × AM)} {rec : Int32 → Int32 → AM → Option ((Unit × AM) ⊕ (Int32 × AM))} (hrec : ∀ (v2 : Int32) (v3 : Int32) (M : AM), WT M → rec v2 v3 M = some o → PW G (d + 4) 294 42 [.ref 105, .int v1, .int v2, .int v3] [] M 0 0 Q) (k1 : ∀ (yo : Unit) (Mo : AM), o = .inl (yo, Mo) → WT Mo → PW G (d + 4) 294 100 [ux, ux, ux, ux] [] Mo 0 0 Q) (k2 : ∀ (r : Int32) (M' : AM), o = .inr (r, M') → WT M' → Q M' (some (.int r))) (hW : WT M)   (hf : f_Mo_again_b42 rec v1 v2 v3 M = some o) : PW G (d + 4) 294 42 [.ref 105, .int v1, .int v2, .int v3] [] M 0 0 Q := by
  refine P_iload_n d_294_42 rfl ?_
  refine P_sipush d_294_43 si_300 ?_
  refine A_icmp_gt (tgt := 100) d_294_46 rfl hf (fun hf => ?_) (fun hf => ?_)
  · refine P_fgt [false, false, false, false] ?_
    cases hf
    exact k1 _ _ rfl hW 
  · refine P_aload_n d_294_49 rfl ?_
    refine A_gF d_294_50 cn_294 fk_CordLoftModel_91 ft_13_62 k_105 hW ?_
    refine P_iload_n d_294_53 rfl ?_
    refine A_iald d_294_54 k_131 l_131 hW hf (fun hf => ?_)
    refine A_if_lt (tgt := 73) d_294_55 rfl hf (fun hf => ?_) (fun hf => ?_)
    · refine P_aload_n d_294_73 rfl ?_
      refine A_gF d_294_74 cn_294 fk_CordLoftModel_91 ft_13_62 k_105 hW ?_
      refine P_iload_n d_294_77 rfl ?_
      refine P_iload_n d_294_78 rfl ?_
      refine A_iast d_294_79 k_131 l_131 hW hf (fun hW hf => ?_)
      refine P_aload_n d_294_80 rfl ?_
      refine P_iload_n d_294_81 rfl ?_
      refine P_aload_n d_294_82 rfl ?_
      refine A_gF d_294_83 cn_294 fk_CordLoftModel_66 ft_13_50 k_105 hW ?_
      refine A_iconst d_294_86 ic_3 ?_
      refine A_iald d_294_87 k_123 l_123 hW hf (fun hf => ?_)
      refine P_iload_n d_294_88 rfl ?_
      refine P_iadd d_294_89 ?_
      refine A_V2 d_294_90 vk_294_417 ml_257 rfl k_105 hW rfl hf (fun r4 M5 hc hf => t_Mo_duskOf hW  hc (fun hW => ?_))
      refine A_istore_n d_294_93 ml_294 rfl rfl ?_
      refine A_iinc d_294_94 ic_1 rfl ml_294 rfl rfl ?_
      refine P_goto (tgt := 42) d_294_97 rfl ?_
      exact hrec _ _ _ hW  hf
    · refine P_iload_n d_294_58 rfl ?_
      refine A_if_ne (tgt := 66) d_294_59 rfl hf (fun hf => ?_) (fun hf => ?_)
      · refine P_aload_n d_294_66 rfl ?_
        refine A_gF d_294_67 cn_294 fk_CordLoftModel_91 ft_13_62 k_105 hW ?_
        refine P_iload_n d_294_70 rfl ?_
        refine A_iald d_294_71 k_131 l_131 hW hf (fun hf => ?_)
        cases hf
        exact A_iret d_294_72 mr_294 hW rfl (fun hW => k2 _ _ rfl hW)
      · refine P_iload_n d_294_62 rfl ?_
        refine P_goto (tgt := 72) d_294_63 rfl ?_
        cases hf
        exact A_iret d_294_72 mr_294 hW rfl (fun hW => k2 _ _ rfl hW)
theorem t_Mo_again_l42 {G : GT} {d : Nat} {v1 : Int32} {Q : AM → Option Value → Prop} {o : (Unit × AM) ⊕ (Int32 × AM)} (k1 : ∀ (yo : Unit) (Mo : AM), o = .inl (yo, Mo) → WT Mo → PW G (d + 4) 294 100 [ux, ux, ux, ux] [] Mo 0 0 Q) (k2 : ∀ (r : Int32) (M' : AM), o = .inr (r, M') → WT M' → Q M' (some (.int r)))  : ∀ (z : Nat) (v2 : Int32) (v3 : Int32) (M : AM), WT M → f_Mo_again_l42 v1 z v2 v3 M = some o → PW G (d + 4) 294 42 [.ref 105, .int v1, .int v2, .int v3] [] M 0 0 Q := by
  intro z
  induction z with
  | zero => intro v2 v3 M hW hf; cases hf
  | succ z ih => intro v2 v3 M hW hf; exact t_Mo_again_b42 (fun v2 v3 M hW hf => ih v2 v3 M hW hf) k1 k2 hW   hf
def f_Mo_again_b13 (rec : Int32 → AM → Option (Unit × AM)) (v1 : Int32) (v2 : Int32) (M : AM) : Option (Unit × AM) :=
  if 256 ≤ v2 then some ((), M) else ast 256 M 131 v2 (-1) (fun M1 => rec (v2 + 1) M1)
def f_Mo_again_l13 (v1 : Int32) : Nat → Int32 → AM → Option (Unit × AM)
  | 0, _, _ => none
  | n + 1, v2, M => f_Mo_again_b13 (f_Mo_again_l13 v1 n) v1 v2 M
set_option maxRecDepth 20000 in
theorem t_Mo_again_b13 {G : GT} {d : Nat} {v1 : Int32} {v2 : Int32} {M : AM} {Q : AM → Option Value → Prop} {yo : Unit} {Mo : AM} {rec : Int32 → AM → Option (Unit × AM)} (hrec : ∀ (v2 : Int32) (M : AM), WT M → rec v2 M = some (yo, Mo) → PW G (d + 4) 294 13 [.ref 105, .int v1, .int v2, ux] [] M 0 0 Q) (k1 : WT Mo → PW G (d + 4) 294 33 [.ref 105, .int v1, ux, ux] [] Mo 0 0 Q) (hW : WT M)   (hf : f_Mo_again_b13 rec v1 v2 M = some (yo, Mo)) : PW G (d + 4) 294 13 [.ref 105, .int v1, .int v2, ux] [] M 0 0 Q := by
  refine P_iload_n d_294_13 rfl ?_
  refine P_sipush d_294_14 si_256 ?_
  refine A_icmp_ge (tgt := 33) d_294_17 rfl hf (fun hf => ?_) (fun hf => ?_)
  · refine P_fgt [true, true, false, false] ?_
    cases hf
    exact k1 hW 
  · refine P_aload_n d_294_20 rfl ?_
    refine A_gF d_294_21 cn_294 fk_CordLoftModel_91 ft_13_62 k_105 hW ?_
    refine P_iload_n d_294_24 rfl ?_
    refine A_iconst d_294_25 ic_m1 ?_
    refine A_iast d_294_26 k_131 l_131 hW hf (fun hW hf => ?_)
    refine A_iinc d_294_27 ic_1 rfl ml_294 rfl rfl ?_
    refine P_goto (tgt := 13) d_294_30 rfl ?_
    exact hrec _ _ hW  hf
theorem t_Mo_again_l13 {G : GT} {d : Nat} {v1 : Int32} {Q : AM → Option Value → Prop} {yo : Unit} {Mo : AM} (k1 : WT Mo → PW G (d + 4) 294 33 [.ref 105, .int v1, ux, ux] [] Mo 0 0 Q)  : ∀ (z : Nat) (v2 : Int32) (M : AM), WT M → f_Mo_again_l13 v1 z v2 M = some (yo, Mo) → PW G (d + 4) 294 13 [.ref 105, .int v1, .int v2, ux] [] M 0 0 Q := by
  intro z
  induction z with
  | zero => intro v2 M hW hf; cases hf
  | succ z ih => intro v2 M hW hf; exact t_Mo_again_b13 (fun v2 M hW hf => ih v2 M hW hf) k1 hW   hf
def f_Mo_again (a1 : Int32) (M : AM) : Option (Int32 × AM) :=
  bnd (f_Mo_isIn a1 0 1 M) (fun r1 M2 => if r1 = 0 then some ((-1), M2) else bnd (f_Mo_again_l13 a1 fu 0 M2) (fun y3 M4 => ald 5 M4 123 0 (fun x5 => bn2 (f_Mo_again_l42 a1 fu x5 0 M4) (fun y6 M7 => some ((-1), M7)))))
set_option maxRecDepth 20000 in
theorem t_Mo_again {G : GT} {d : Nat} {a1 : Int32} {M : AM} {Q : AM → Option Value → Prop} {r : Int32} {M' : AM} (hW : WT M)  (hf : f_Mo_again a1 M = some (r, M')) (k : WT M' → Q M' (some (.int r)))  : Cal G (d + 4) 294 [.ref 105, .int a1] M Q := by
  refine A_enter ml_294 rfl ?_
  refine P_iload_n d_294_0 rfl ?_
  refine A_iconst d_294_1 ic_0 ?_
  refine A_iconst d_294_2 ic_1 ?_
  refine A_S3 d_294_3 sk_294_399 ml_243 rfl rfl hf (fun r1 M2 hc hf => t_Mo_isIn hW  hc (fun hW hb2 => ?_))
  refine A_if_ne (tgt := 11) d_294_6 rfl hf (fun hf => ?_) (fun hf => ?_)
  · refine A_iconst d_294_11 ic_0 ?_
    refine A_istore_n d_294_12 ml_294 rfl rfl ?_
    obtain ⟨y3, M4, hl, hf⟩ := bnd_some hf
    refine t_Mo_again_l13 (fun hW => ?_)  fu _ _ hW  hl
    refine P_aload_n d_294_33 rfl ?_
    refine A_gF d_294_34 cn_294 fk_CordLoftModel_66 ft_13_50 k_105 hW ?_
    refine A_iconst d_294_37 ic_0 ?_
    refine A_iald d_294_38 k_123 l_123 hW hf (fun hf => ?_)
    refine A_istore_n d_294_39 ml_294 rfl rfl ?_
    refine A_iconst d_294_40 ic_0 ?_
    refine A_istore_n d_294_41 ml_294 rfl rfl ?_
    obtain ⟨o, hl, hf⟩ := bn2_some hf
    refine t_Mo_again_l42 (o := o) (fun y6 M7 e hW => ?_) (fun r1 Mr e hW => ?_)  fu _ _ _ hW  hl
    · subst e
      change _ = some (r, M') at hf
      refine A_iconst d_294_100 ic_m1 ?_
      exact A_iret d_294_101 mr_294 hW hf k
    · subst e; cases hf; exact k hW
  · refine A_iconst d_294_9 ic_m1 ?_
    exact A_iret d_294_10 mr_294 hW hf k
def f_Mo_pasts_b18 (rec : Int32 → Int32 → Int32 → AM → Option ((Int32 × Int32) × AM)) (v1 : Int32) (v2 : Int32) (v3 : Int32) (v4 : Int32) (M : AM) : Option ((Int32 × Int32) × AM) :=
  if ((1 : Int32) <<< ((gI M 105 41) &&& 31)) ≤ v4 then some ((v2, v3), M) else ald 5 M 123 3 (fun x1 => bnd (f_Mo_duskOf v4 x1 M) (fun r2 M3 => ald 5 M3 123 0 (fun x4 => if r2 = x4 then if 0 ≤ v3 then rec (v2 + 1) v3 (v4 + 1) M3 else rec (v2 + 1) v4 (v4 + 1) M3 else rec v2 v3 (v4 + 1) M3)))
def f_Mo_pasts_l18 (v1 : Int32) : Nat → Int32 → Int32 → Int32 → AM → Option ((Int32 × Int32) × AM)
  | 0, _, _, _, _ => none
  | n + 1, v2, v3, v4, M => f_Mo_pasts_b18 (f_Mo_pasts_l18 v1 n) v1 v2 v3 v4 M
set_option maxRecDepth 20000 in
theorem t_Mo_pasts_b18 {G : GT} {d : Nat} {v1 : Int32} {v2 : Int32} {v3 : Int32} {v4 : Int32} {M : AM} {Q : AM → Option Value → Prop} {yo : Int32 × Int32} {Mo : AM} {rec : Int32 → Int32 → Int32 → AM → Option ((Int32 × Int32) × AM)} (hrec : ∀ (v2 : Int32) (v3 : Int32) (v4 : Int32) (M : AM), WT M → rec v2 v3 v4 M = some (yo, Mo) → PW G (d + 4) 295 18 [.ref 105, .int v1, .int v2, .int v3, .int v4] [] M 0 0 Q) (k1 : WT Mo → PW G (d + 4) 295 73 [ux, .int v1, .int yo.1, .int yo.2, ux] [] Mo 0 0 Q) (hW : WT M)   (hf : f_Mo_pasts_b18 rec v1 v2 v3 v4 M = some (yo, Mo)) : PW G (d + 4) 295 18 [.ref 105, .int v1, .int v2, .int v3, .int v4] [] M 0 0 Q := by
  refine P_iload d_295_18 rfl ?_
  refine A_iconst d_295_20 ic_1 ?_
  refine P_aload_n d_295_21 rfl ?_
  refine A_gI d_295_22 cn_295 fk_CordLoftModel_303 k_105 hW ?_
  refine P_ishl d_295_25 ?_
  refine A_icmp_ge (tgt := 73) d_295_26 rfl hf (fun hf => ?_) (fun hf => ?_)
  · refine P_fgt [false, true, true, true, false] ?_
    cases hf
    exact k1 hW 
  · refine P_aload_n d_295_29 rfl ?_
    refine P_iload d_295_30 rfl ?_
    refine P_aload_n d_295_32 rfl ?_
    refine A_gF d_295_33 cn_295 fk_CordLoftModel_66 ft_13_50 k_105 hW ?_
    refine A_iconst d_295_36 ic_3 ?_
    refine A_iald d_295_37 k_123 l_123 hW hf (fun hf => ?_)
    refine A_V2 d_295_38 vk_295_417 ml_257 rfl k_105 hW rfl hf (fun r2 M3 hc hf => t_Mo_duskOf hW  hc (fun hW => ?_))
    refine P_aload_n d_295_41 rfl ?_
    refine A_gF d_295_42 cn_295 fk_CordLoftModel_66 ft_13_50 k_105 hW ?_
    refine A_iconst d_295_45 ic_0 ?_
    refine A_iald d_295_46 k_123 l_123 hW hf (fun hf => ?_)
    refine A_icmp_eq (tgt := 53) d_295_47 rfl hf (fun hf => ?_) (fun hf => ?_)
    · refine A_iinc d_295_53 ic_1 rfl ml_295 rfl rfl ?_
      refine P_iload_n d_295_56 rfl ?_
      refine A_if_ge (tgt := 65) d_295_57 rfl hf (fun hf => ?_) (fun hf => ?_)
      · refine P_iload_n d_295_65 rfl ?_
        refine A_istore_n d_295_66 ml_295 rfl rfl ?_
        refine A_iinc d_295_67 ic_1 rfl ml_295 rfl rfl ?_
        refine P_goto (tgt := 18) d_295_70 rfl ?_
        exact hrec _ _ _ _ hW  hf
      · refine P_iload d_295_60 rfl ?_
        refine P_goto (tgt := 66) d_295_62 rfl ?_
        refine A_istore_n d_295_66 ml_295 rfl rfl ?_
        refine A_iinc d_295_67 ic_1 rfl ml_295 rfl rfl ?_
        refine P_goto (tgt := 18) d_295_70 rfl ?_
        exact hrec _ _ _ _ hW  hf
    · refine P_goto (tgt := 67) d_295_50 rfl ?_
      refine A_iinc d_295_67 ic_1 rfl ml_295 rfl rfl ?_
      refine P_goto (tgt := 18) d_295_70 rfl ?_
      exact hrec _ _ _ _ hW  hf
theorem t_Mo_pasts_l18 {G : GT} {d : Nat} {v1 : Int32} {Q : AM → Option Value → Prop} {yo : Int32 × Int32} {Mo : AM} (k1 : WT Mo → PW G (d + 4) 295 73 [ux, .int v1, .int yo.1, .int yo.2, ux] [] Mo 0 0 Q)  : ∀ (z : Nat) (v2 : Int32) (v3 : Int32) (v4 : Int32) (M : AM), WT M → f_Mo_pasts_l18 v1 z v2 v3 v4 M = some (yo, Mo) → PW G (d + 4) 295 18 [.ref 105, .int v1, .int v2, .int v3, .int v4] [] M 0 0 Q := by
  intro z
  induction z with
  | zero => intro v2 v3 v4 M hW hf; cases hf
  | succ z ih => intro v2 v3 v4 M hW hf; exact t_Mo_pasts_b18 (fun v2 v3 v4 M hW hf => ih v2 v3 v4 M hW hf) k1 hW   hf
def f_Mo_pasts (a1 : Int32) (M : AM) : Option (Int32 × AM) :=
  bnd (f_Mo_isIn a1 0 1 M) (fun r1 M2 => if r1 = 0 then some ((-1), M2) else bnd (f_Mo_pasts_l18 a1 fu 0 (-1) 0 M2) (fun y3 M4 => if a1 = 0 then some (y3.1, M4) else some (y3.2, M4)))
set_option maxRecDepth 20000 in
theorem t_Mo_pasts {G : GT} {d : Nat} {a1 : Int32} {M : AM} {Q : AM → Option Value → Prop} {r : Int32} {M' : AM} (hW : WT M)  (hf : f_Mo_pasts a1 M = some (r, M')) (k : WT M' → Q M' (some (.int r)))  : Cal G (d + 4) 295 [.ref 105, .int a1] M Q := by
  refine A_enter ml_295 rfl ?_
  refine P_iload_n d_295_0 rfl ?_
  refine A_iconst d_295_1 ic_0 ?_
  refine A_iconst d_295_2 ic_1 ?_
  refine A_S3 d_295_3 sk_295_399 ml_243 rfl rfl hf (fun r1 M2 hc hf => t_Mo_isIn hW  hc (fun hW hb2 => ?_))
  refine A_if_ne (tgt := 11) d_295_6 rfl hf (fun hf => ?_) (fun hf => ?_)
  · refine A_iconst d_295_11 ic_0 ?_
    refine A_istore_n d_295_12 ml_295 rfl rfl ?_
    refine A_iconst d_295_13 ic_m1 ?_
    refine A_istore_n d_295_14 ml_295 rfl rfl ?_
    refine A_iconst d_295_15 ic_0 ?_
    refine A_istore d_295_16 ml_295 rfl rfl ?_
    obtain ⟨y3, M4, hl, hf⟩ := bnd_some hf
    refine t_Mo_pasts_l18 (fun hW => ?_)  fu _ _ _ _ hW  hl
    refine P_iload_n d_295_73 rfl ?_
    refine A_if_ne (tgt := 81) d_295_74 rfl hf (fun hf => ?_) (fun hf => ?_)
    · refine P_iload_n d_295_81 rfl ?_
      exact A_iret d_295_82 mr_295 hW hf k
    · refine P_iload_n d_295_77 rfl ?_
      refine P_goto (tgt := 82) d_295_78 rfl ?_
      exact A_iret d_295_82 mr_295 hW hf k
  · refine A_iconst d_295_9 ic_m1 ?_
    exact A_iret d_295_10 mr_295 hW hf k
def f_Mo_still_j35 (rec : Int32 → Int32 → AM → Option (Int32 × AM)) (v2 : Int32) (s0 : Int32) (s1 : Int32) (M : AM) : Option (Int32 × AM) :=
  bnd (f_Mo_truth s1 M) (fun r1 M2 => rec (s0 + r1) (v2 + 1) M2)
set_option maxRecDepth 20000 in
theorem t_Mo_still_j35 {G : GT} {d : Nat} {v2 : Int32} {s0 : Int32} {s1 : Int32} {M : AM} {Q : AM → Option Value → Prop} {yo : Int32} {Mo : AM} {rec : Int32 → Int32 → AM → Option (Int32 × AM)} (hrec : ∀ (v1 : Int32) (v2 : Int32) (M : AM), WT M → rec v1 v2 M = some (yo, Mo) → PW G (d + 4) 296 4 [.ref 105, .int v1, .int v2] [] M 0 0 Q) (k1 : WT Mo → PW G (d + 4) 296 46 [ux, .int yo, ux] [] Mo 0 0 Q) (hW : WT M)  (hf : f_Mo_still_j35 rec v2 s0 s1 M = some (yo, Mo)) : PW G (d + 4) 296 35 [.ref 105, ux, .int v2] [.int s1, .int s0] M 0 0 Q := by
  refine A_S1 d_296_35 sk_296_283 ml_259 rfl rfl hf (fun r1 M2 hc hf => t_Mo_truth hW  hc (fun hW => ?_))
  refine P_iadd d_296_38 ?_
  refine A_istore_n d_296_39 ml_296 rfl rfl ?_
  refine A_iinc d_296_40 ic_1 rfl ml_296 rfl rfl ?_
  refine P_goto (tgt := 4) d_296_43 rfl ?_
  exact hrec _ _ _ hW  hf
def f_Mo_still_b4 (rec : Int32 → Int32 → AM → Option (Int32 × AM))  (v1 : Int32) (v2 : Int32) (M : AM) : Option (Int32 × AM) :=
  if ((1 : Int32) <<< ((gI M 105 41) &&& 31)) ≤ v2 then some (v1, M) else ald 5 M 123 3 (fun x1 => bnd (f_Mo_duskOf v2 x1 M) (fun r2 M3 => if r2 = v2 then f_Mo_still_j35 rec v2 v1 1 M3 else f_Mo_still_j35 rec v2 v1 0 M3))
def f_Mo_still_l4  : Nat → Int32 → Int32 → AM → Option (Int32 × AM)
  | 0, _, _, _ => none
  | n + 1, v1, v2, M => f_Mo_still_b4 (f_Mo_still_l4  n)  v1 v2 M
set_option maxRecDepth 20000 in
theorem t_Mo_still_b4 {G : GT} {d : Nat}  {v1 : Int32} {v2 : Int32} {M : AM} {Q : AM → Option Value → Prop} {yo : Int32} {Mo : AM} {rec : Int32 → Int32 → AM → Option (Int32 × AM)} (hrec : ∀ (v1 : Int32) (v2 : Int32) (M : AM), WT M → rec v1 v2 M = some (yo, Mo) → PW G (d + 4) 296 4 [.ref 105, .int v1, .int v2] [] M 0 0 Q) (k1 : WT Mo → PW G (d + 4) 296 46 [ux, .int yo, ux] [] Mo 0 0 Q) (hW : WT M)   (hf : f_Mo_still_b4 rec  v1 v2 M = some (yo, Mo)) : PW G (d + 4) 296 4 [.ref 105, .int v1, .int v2] [] M 0 0 Q := by
  refine P_iload_n d_296_4 rfl ?_
  refine A_iconst d_296_5 ic_1 ?_
  refine P_aload_n d_296_6 rfl ?_
  refine A_gI d_296_7 cn_296 fk_CordLoftModel_303 k_105 hW ?_
  refine P_ishl d_296_10 ?_
  refine A_icmp_ge (tgt := 46) d_296_11 rfl hf (fun hf => ?_) (fun hf => ?_)
  · refine P_fgt [false, true, false] ?_
    cases hf
    exact k1 hW 
  · refine P_iload_n d_296_14 rfl ?_
    refine P_aload_n d_296_15 rfl ?_
    refine P_iload_n d_296_16 rfl ?_
    refine P_aload_n d_296_17 rfl ?_
    refine A_gF d_296_18 cn_296 fk_CordLoftModel_66 ft_13_50 k_105 hW ?_
    refine A_iconst d_296_21 ic_3 ?_
    refine A_iald d_296_22 k_123 l_123 hW hf (fun hf => ?_)
    refine A_V2 d_296_23 vk_296_417 ml_257 rfl k_105 hW rfl hf (fun r2 M3 hc hf => t_Mo_duskOf hW  hc (fun hW => ?_))
    refine P_iload_n d_296_26 rfl ?_
    refine A_icmp_ne (tgt := 34) d_296_27 rfl hf (fun hf => ?_) (fun hf => ?_)
    · refine A_iconst d_296_34 ic_0 ?_
      refine P_fgt [true, false, true] ?_
      exact t_Mo_still_j35 hrec k1 hW  hf
    · refine A_iconst d_296_30 ic_1 ?_
      refine P_goto (tgt := 35) d_296_31 rfl ?_
      refine P_fgt [true, false, true] ?_
      exact t_Mo_still_j35 hrec k1 hW  hf
theorem t_Mo_still_l4 {G : GT} {d : Nat}  {Q : AM → Option Value → Prop} {yo : Int32} {Mo : AM} (k1 : WT Mo → PW G (d + 4) 296 46 [ux, .int yo, ux] [] Mo 0 0 Q)  : ∀ (z : Nat) (v1 : Int32) (v2 : Int32) (M : AM), WT M → f_Mo_still_l4  z v1 v2 M = some (yo, Mo) → PW G (d + 4) 296 4 [.ref 105, .int v1, .int v2] [] M 0 0 Q := by
  intro z
  induction z with
  | zero => intro v1 v2 M hW hf; cases hf
  | succ z ih => intro v1 v2 M hW hf; exact t_Mo_still_b4 (fun v1 v2 M hW hf => ih v1 v2 M hW hf) k1 hW   hf
def f_Mo_still  (M : AM) : Option (Int32 × AM) :=
  bnd (f_Mo_still_l4  fu 0 0 M) (fun y1 M2 => some (y1, M2))
set_option maxRecDepth 20000 in
theorem t_Mo_still {G : GT} {d : Nat}  {M : AM} {Q : AM → Option Value → Prop} {r : Int32} {M' : AM} (hW : WT M)  (hf : f_Mo_still  M = some (r, M')) (k : WT M' → Q M' (some (.int r)))  : Cal G (d + 4) 296 [.ref 105] M Q := by
  refine A_enter ml_296 rfl ?_
  refine A_iconst d_296_0 ic_0 ?_
  refine A_istore_n d_296_1 ml_296 rfl rfl ?_
  refine A_iconst d_296_2 ic_0 ?_
  refine A_istore_n d_296_3 ml_296 rfl rfl ?_
  obtain ⟨y1, M2, hl, hf⟩ := bnd_some hf
  refine t_Mo_still_l4 (fun hW => ?_)  fu _ _ _ hW  hl
  refine P_iload_n d_296_46 rfl ?_
  exact A_iret d_296_47 mr_296 hW hf k
def f_Mo_more_b18 (rec : Int32 → Int32 → Int32 → AM → Option ((Int32 × Int32) × AM)) (v1 : Int32) (v2 : Int32) (v3 : Int32) (v4 : Int32) (M : AM) : Option ((Int32 × Int32) × AM) :=
  if ((1 : Int32) <<< ((gI M 105 41) &&& 31)) ≤ v4 then some ((v2, v3), M) else bnd (f_Mo_free  M) (fun r1 M2 => bnd (f_Mo_layPictures r1 v4 M2) (fun r3 M4 => if v3 < r3 then rec v4 r3 (v4 + 1) M4 else rec v2 v3 (v4 + 1) M4))
def f_Mo_more_l18 (v1 : Int32) : Nat → Int32 → Int32 → Int32 → AM → Option ((Int32 × Int32) × AM)
  | 0, _, _, _, _ => none
  | n + 1, v2, v3, v4, M => f_Mo_more_b18 (f_Mo_more_l18 v1 n) v1 v2 v3 v4 M
set_option maxRecDepth 20000 in
theorem t_Mo_more_b18 {G : GT} {d : Nat} {v1 : Int32} {v2 : Int32} {v3 : Int32} {v4 : Int32} {M : AM} {Q : AM → Option Value → Prop} {yo : Int32 × Int32} {Mo : AM} {rec : Int32 → Int32 → Int32 → AM → Option ((Int32 × Int32) × AM)} (hrec : ∀ (v2 : Int32) (v3 : Int32) (v4 : Int32) (M : AM), WT M → rec v2 v3 v4 M = some (yo, Mo) → PW G (d + 3) 297 18 [.ref 105, .int v1, .int v2, .int v3, .int v4, ux] [] M 0 0 Q) (k1 : WT Mo → PW G (d + 3) 297 62 [ux, .int v1, .int yo.1, .int yo.2, ux, ux] [] Mo 0 0 Q) (hW : WT M)   (hf : f_Mo_more_b18 rec v1 v2 v3 v4 M = some (yo, Mo)) : PW G (d + 3) 297 18 [.ref 105, .int v1, .int v2, .int v3, .int v4, ux] [] M 0 0 Q := by
  refine P_iload d_297_18 rfl ?_
  refine A_iconst d_297_20 ic_1 ?_
  refine P_aload_n d_297_21 rfl ?_
  refine A_gI d_297_22 cn_297 fk_CordLoftModel_303 k_105 hW ?_
  refine P_ishl d_297_25 ?_
  refine A_icmp_ge (tgt := 62) d_297_26 rfl hf (fun hf => ?_) (fun hf => ?_)
  · refine P_fgt [false, true, true, true, false, false] ?_
    cases hf
    exact k1 hW 
  · refine P_aload_n d_297_29 rfl ?_
    refine P_aload_n d_297_30 rfl ?_
    refine A_V0 d_297_31 vk_297_429 ml_268 rfl k_105 hW rfl hf (fun r1 M2 hc hf => t_Mo_free hW  hc (fun hW => ?_))
    refine P_iload d_297_34 rfl ?_
    refine A_V2 d_297_36 vk_297_454 ml_279 rfl k_105 hW rfl hf (fun r3 M4 hc hf => t_Mo_layPictures hW  hc (fun hW => ?_))
    refine A_istore d_297_39 ml_297 rfl rfl ?_
    refine P_iload d_297_41 rfl ?_
    refine P_iload_n d_297_43 rfl ?_
    refine A_icmp_gt (tgt := 50) d_297_44 rfl hf (fun hf => ?_) (fun hf => ?_)
    · refine P_iload d_297_50 rfl ?_
      refine A_istore_n d_297_52 ml_297 rfl rfl ?_
      refine P_iload d_297_53 rfl ?_
      refine A_istore_n d_297_55 ml_297 rfl rfl ?_
      refine A_iinc d_297_56 ic_1 rfl ml_297 rfl rfl ?_
      refine P_goto (tgt := 18) d_297_59 rfl ?_
      refine P_fgt [true, true, true, true, true, false] ?_
      exact hrec _ _ _ _ hW  hf
    · refine P_goto (tgt := 56) d_297_47 rfl ?_
      refine A_iinc d_297_56 ic_1 rfl ml_297 rfl rfl ?_
      refine P_goto (tgt := 18) d_297_59 rfl ?_
      refine P_fgt [true, true, true, true, true, false] ?_
      exact hrec _ _ _ _ hW  hf
theorem t_Mo_more_l18 {G : GT} {d : Nat} {v1 : Int32} {Q : AM → Option Value → Prop} {yo : Int32 × Int32} {Mo : AM} (k1 : WT Mo → PW G (d + 3) 297 62 [ux, .int v1, .int yo.1, .int yo.2, ux, ux] [] Mo 0 0 Q)  : ∀ (z : Nat) (v2 : Int32) (v3 : Int32) (v4 : Int32) (M : AM), WT M → f_Mo_more_l18 v1 z v2 v3 v4 M = some (yo, Mo) → PW G (d + 3) 297 18 [.ref 105, .int v1, .int v2, .int v3, .int v4, ux] [] M 0 0 Q := by
  intro z
  induction z with
  | zero => intro v2 v3 v4 M hW hf; cases hf
  | succ z ih => intro v2 v3 v4 M hW hf; exact t_Mo_more_b18 (fun v2 v3 v4 M hW hf => ih v2 v3 v4 M hW hf) k1 hW   hf
def f_Mo_more (a1 : Int32) (M : AM) : Option (Int32 × AM) :=
  bnd (f_Mo_isIn a1 0 1 M) (fun r1 M2 => if r1 = 0 then some ((-1), M2) else bnd (f_Mo_more_l18 a1 fu (-1) (-1) 0 M2) (fun y3 M4 => if a1 = 0 then some (y3.1, M4) else some (y3.2, M4)))
set_option maxRecDepth 20000 in
theorem t_Mo_more {G : GT} {d : Nat} {a1 : Int32} {M : AM} {Q : AM → Option Value → Prop} {r : Int32} {M' : AM} (hW : WT M)  (hf : f_Mo_more a1 M = some (r, M')) (k : WT M' → Q M' (some (.int r)))  : Cal G (d + 3) 297 [.ref 105, .int a1] M Q := by
  refine A_enter ml_297 rfl ?_
  refine P_iload_n d_297_0 rfl ?_
  refine A_iconst d_297_1 ic_0 ?_
  refine A_iconst d_297_2 ic_1 ?_
  refine A_S3 d_297_3 sk_297_399 ml_243 rfl rfl hf (fun r1 M2 hc hf => t_Mo_isIn hW  hc (fun hW hb2 => ?_))
  refine A_if_ne (tgt := 11) d_297_6 rfl hf (fun hf => ?_) (fun hf => ?_)
  · refine A_iconst d_297_11 ic_m1 ?_
    refine A_istore_n d_297_12 ml_297 rfl rfl ?_
    refine A_iconst d_297_13 ic_m1 ?_
    refine A_istore_n d_297_14 ml_297 rfl rfl ?_
    refine A_iconst d_297_15 ic_0 ?_
    refine A_istore d_297_16 ml_297 rfl rfl ?_
    obtain ⟨y3, M4, hl, hf⟩ := bnd_some hf
    refine t_Mo_more_l18 (fun hW => ?_)  fu _ _ _ _ hW  hl
    refine P_iload_n d_297_62 rfl ?_
    refine A_if_ne (tgt := 70) d_297_63 rfl hf (fun hf => ?_) (fun hf => ?_)
    · refine P_iload_n d_297_70 rfl ?_
      exact A_iret d_297_71 mr_297 hW hf k
    · refine P_iload_n d_297_66 rfl ?_
      refine P_goto (tgt := 71) d_297_67 rfl ?_
      exact A_iret d_297_71 mr_297 hW hf k
  · refine A_iconst d_297_9 ic_m1 ?_
    exact A_iret d_297_10 mr_297 hW hf k
def f_Mo_darkCost  (M : AM) : Option (Int32 × AM) :=
  bnd (f_Mo_cheapestFor 0 M) (fun r1 M2 => if 0 ≤ r1 then bnd (f_Mo_costOf r1 M2) (fun r3 M4 => some (r3, M4)) else some (1000000, M2))
set_option maxRecDepth 20000 in
theorem t_Mo_darkCost {G : GT} {d : Nat}  {M : AM} {Q : AM → Option Value → Prop} {r : Int32} {M' : AM} (hW : WT M)  (hf : f_Mo_darkCost  M = some (r, M')) (k : WT M' → Q M' (some (.int r)))  : Cal G (d + 3) 299 [.ref 105] M Q := by
  refine A_enter ml_299 rfl ?_
  refine P_aload_n d_299_0 rfl ?_
  refine A_iconst d_299_1 ic_0 ?_
  refine A_V1 d_299_2 vk_299_451 ml_275 rfl k_105 hW rfl hf (fun r1 M2 hc hf => t_Mo_cheapestFor hW  hc (fun hW => ?_))
  refine A_istore_n d_299_5 ml_299 rfl rfl ?_
  refine P_iload_n d_299_6 rfl ?_
  refine A_if_ge (tgt := 16) d_299_7 rfl hf (fun hf => ?_) (fun hf => ?_)
  · refine P_aload_n d_299_16 rfl ?_
    refine P_iload_n d_299_17 rfl ?_
    refine A_V1 d_299_18 vk_299_448 ml_276 rfl k_105 hW rfl hf (fun r3 M4 hc hf => t_Mo_costOf hW  hc (fun hW => ?_))
    exact A_iret d_299_21 mr_299 hW hf k
  · refine A_ldcw d_299_10 cn_299 cw_CordLoftModel_466 ?_
    refine P_goto (tgt := 21) d_299_13 rfl ?_
    exact A_iret d_299_21 mr_299 hW hf k
def f_Mo_exchangeCosts (a1 : Int32) (a2 : Int32) (M : AM) : Option (Unit × AM) :=
  ald 8 M 122 a1 (fun x1 => ald 8 M 122 a2 (fun x2 => ast 8 M 122 a1 x2 (fun M3 => ast 8 M3 122 a2 x1 (fun M4 => some ((), M4)))))
set_option maxRecDepth 20000 in
theorem t_Mo_exchangeCosts {G : GT} {d : Nat} {a1 : Int32} {a2 : Int32} {M : AM} {Q : AM → Option Value → Prop} {r : Unit} {M' : AM} (hW : WT M)  (hf : f_Mo_exchangeCosts a1 a2 M = some (r, M')) (k : WT M' → Q M' none)  : Cal G d 300 [.ref 105, .int a1, .int a2] M Q := by
  refine A_enter ml_300 rfl ?_
  refine P_aload_n d_300_0 rfl ?_
  refine A_gF d_300_1 cn_300 fk_CordLoftModel_63 ft_13_34 k_105 hW ?_
  refine P_iload_n d_300_4 rfl ?_
  refine A_iald d_300_5 k_122 l_122 hW hf (fun hf => ?_)
  refine A_istore_n d_300_6 ml_300 rfl rfl ?_
  refine P_aload_n d_300_7 rfl ?_
  refine A_gF d_300_8 cn_300 fk_CordLoftModel_63 ft_13_34 k_105 hW ?_
  refine P_iload_n d_300_11 rfl ?_
  refine P_aload_n d_300_12 rfl ?_
  refine A_gF d_300_13 cn_300 fk_CordLoftModel_63 ft_13_34 k_105 hW ?_
  refine P_iload_n d_300_16 rfl ?_
  refine A_iald d_300_17 k_122 l_122 hW hf (fun hf => ?_)
  refine A_iast d_300_18 k_122 l_122 hW hf (fun hW hf => ?_)
  refine P_aload_n d_300_19 rfl ?_
  refine A_gF d_300_20 cn_300 fk_CordLoftModel_63 ft_13_34 k_105 hW ?_
  refine P_iload_n d_300_23 rfl ?_
  refine P_iload_n d_300_24 rfl ?_
  refine A_iast d_300_25 k_122 l_122 hW hf (fun hW hf => ?_)
  exact A_ret d_300_26 mr_300 hW hf k
def f_Mo_exchange_b39 (rec : Int32 → Int32 → Int32 → Int32 → AM → Option ((Int32 × Int32 × Int32) × AM)) (v1 : Int32) (v5 : Int32) (v2 : Int32) (v3 : Int32) (v4 : Int32) (v6 : Int32) (M : AM) : Option ((Int32 × Int32 × Int32) × AM) :=
  if (gI M 105 42) ≤ v6 then some ((v2, v3, v4), M) else bnd (f_Mo_exchangeCosts v5 v6 M) (fun r1 M2 => bnd (f_Mo_darkCost  M2) (fun r3 M4 => bnd (f_Mo_exchangeCosts v5 v6 M4) (fun r5 M6 => if r3 < v4 then rec v5 v6 r3 (v6 + 1) M6 else rec v2 v3 v4 (v6 + 1) M6)))
def f_Mo_exchange_l39 (v1 : Int32) (v5 : Int32) : Nat → Int32 → Int32 → Int32 → Int32 → AM → Option ((Int32 × Int32 × Int32) × AM)
  | 0, _, _, _, _, _ => none
  | n + 1, v2, v3, v4, v6, M => f_Mo_exchange_b39 (f_Mo_exchange_l39 v1 v5 n) v1 v5 v2 v3 v4 v6 M
set_option maxRecDepth 20000 in
theorem t_Mo_exchange_b39 {G : GT} {d : Nat} {v1 : Int32} {v5 : Int32} {v2 : Int32} {v3 : Int32} {v4 : Int32} {v6 : Int32} {M : AM} {Q : AM → Option Value → Prop} {yo : Int32 × Int32 × Int32} {Mo : AM} {rec : Int32 → Int32 → Int32 → Int32 → AM → Option ((Int32 × Int32 × Int32) × AM)} (hrec : ∀ (v2 : Int32) (v3 : Int32) (v4 : Int32) (v6 : Int32) (M : AM), WT M → rec v2 v3 v4 v6 M = some (yo, Mo) → PW G (d + 4) 298 39 [.ref 105, .int v1, .int v2, .int v3, .int v4, .int v5, .int v6, ux] [] M 0 0 Q) (k1 : WT Mo → PW G (d + 4) 298 96 [.ref 105, .int v1, .int yo.1, .int yo.2.1, .int yo.2.2, .int v5, ux, ux] [] Mo 0 0 Q) (hW : WT M)   (hf : f_Mo_exchange_b39 rec v1 v5 v2 v3 v4 v6 M = some (yo, Mo)) : PW G (d + 4) 298 39 [.ref 105, .int v1, .int v2, .int v3, .int v4, .int v5, .int v6, ux] [] M 0 0 Q := by
  refine P_iload d_298_39 rfl ?_
  refine P_aload_n d_298_41 rfl ?_
  refine A_gI d_298_42 cn_298 fk_CordLoftModel_369 k_105 hW ?_
  refine A_icmp_ge (tgt := 96) d_298_45 rfl hf (fun hf => ?_) (fun hf => ?_)
  · refine P_fgt [true, true, true, true, true, true, false, false] ?_
    cases hf
    exact k1 hW 
  · refine P_aload_n d_298_48 rfl ?_
    refine P_iload d_298_49 rfl ?_
    refine P_iload d_298_51 rfl ?_
    refine A_V2 d_298_53 vk_298_476 ml_300 rfl k_105 hW rfl hf (fun r1 M2 hc hf => t_Mo_exchangeCosts hW  hc (fun hW => ?_))
    refine P_aload_n d_298_56 rfl ?_
    refine A_V0 d_298_57 vk_298_473 ml_299 rfl k_105 hW rfl hf (fun r3 M4 hc hf => t_Mo_darkCost hW  hc (fun hW => ?_))
    refine A_istore d_298_60 ml_298 rfl rfl ?_
    refine P_aload_n d_298_62 rfl ?_
    refine P_iload d_298_63 rfl ?_
    refine P_iload d_298_65 rfl ?_
    refine A_V2 d_298_67 vk_298_476 ml_300 rfl k_105 hW rfl hf (fun r5 M6 hc hf => t_Mo_exchangeCosts hW  hc (fun hW => ?_))
    refine P_iload d_298_70 rfl ?_
    refine P_iload d_298_72 rfl ?_
    refine A_icmp_lt (tgt := 80) d_298_74 rfl hf (fun hf => ?_) (fun hf => ?_)
    · refine P_iload d_298_80 rfl ?_
      refine A_istore_n d_298_82 ml_298 rfl rfl ?_
      refine P_iload d_298_83 rfl ?_
      refine A_istore_n d_298_85 ml_298 rfl rfl ?_
      refine P_iload d_298_86 rfl ?_
      refine A_istore d_298_88 ml_298 rfl rfl ?_
      refine A_iinc d_298_90 ic_1 rfl ml_298 rfl rfl ?_
      refine P_goto (tgt := 39) d_298_93 rfl ?_
      refine P_fgt [true, true, true, true, true, true, true, false] ?_
      exact hrec _ _ _ _ _ hW  hf
    · refine P_goto (tgt := 90) d_298_77 rfl ?_
      refine A_iinc d_298_90 ic_1 rfl ml_298 rfl rfl ?_
      refine P_goto (tgt := 39) d_298_93 rfl ?_
      refine P_fgt [true, true, true, true, true, true, true, false] ?_
      exact hrec _ _ _ _ _ hW  hf
theorem t_Mo_exchange_l39 {G : GT} {d : Nat} {v1 : Int32} {v5 : Int32} {Q : AM → Option Value → Prop} {yo : Int32 × Int32 × Int32} {Mo : AM} (k1 : WT Mo → PW G (d + 4) 298 96 [.ref 105, .int v1, .int yo.1, .int yo.2.1, .int yo.2.2, .int v5, ux, ux] [] Mo 0 0 Q)  : ∀ (z : Nat) (v2 : Int32) (v3 : Int32) (v4 : Int32) (v6 : Int32) (M : AM), WT M → f_Mo_exchange_l39 v1 v5 z v2 v3 v4 v6 M = some (yo, Mo) → PW G (d + 4) 298 39 [.ref 105, .int v1, .int v2, .int v3, .int v4, .int v5, .int v6, ux] [] M 0 0 Q := by
  intro z
  induction z with
  | zero => intro v2 v3 v4 v6 M hW hf; cases hf
  | succ z ih => intro v2 v3 v4 v6 M hW hf; exact t_Mo_exchange_b39 (fun v2 v3 v4 v6 M hW hf => ih v2 v3 v4 v6 M hW hf) k1 hW   hf
def f_Mo_exchange_b24 (rec : Int32 → Int32 → Int32 → Int32 → AM → Option ((Int32 × Int32 × Int32) × AM)) (v1 : Int32) (v2 : Int32) (v3 : Int32) (v4 : Int32) (v5 : Int32) (M : AM) : Option ((Int32 × Int32 × Int32) × AM) :=
  if (gI M 105 42) ≤ v5 then some ((v2, v3, v4), M) else bnd (f_Mo_exchange_l39 v1 v5 fu v2 v3 v4 (v5 + 1) M) (fun y1 M2 => rec y1.1 y1.2.1 y1.2.2 (v5 + 1) M2)
def f_Mo_exchange_l24 (v1 : Int32) : Nat → Int32 → Int32 → Int32 → Int32 → AM → Option ((Int32 × Int32 × Int32) × AM)
  | 0, _, _, _, _, _ => none
  | n + 1, v2, v3, v4, v5, M => f_Mo_exchange_b24 (f_Mo_exchange_l24 v1 n) v1 v2 v3 v4 v5 M
set_option maxRecDepth 20000 in
theorem t_Mo_exchange_b24 {G : GT} {d : Nat} {v1 : Int32} {v2 : Int32} {v3 : Int32} {v4 : Int32} {v5 : Int32} {M : AM} {Q : AM → Option Value → Prop} {yo : Int32 × Int32 × Int32} {Mo : AM} {rec : Int32 → Int32 → Int32 → Int32 → AM → Option ((Int32 × Int32 × Int32) × AM)} (hrec : ∀ (v2 : Int32) (v3 : Int32) (v4 : Int32) (v5 : Int32) (M : AM), WT M → rec v2 v3 v4 v5 M = some (yo, Mo) → PW G (d + 4) 298 24 [.ref 105, .int v1, .int v2, .int v3, .int v4, .int v5, ux, ux] [] M 0 0 Q) (k1 : WT Mo → PW G (d + 4) 298 102 [ux, .int v1, .int yo.1, .int yo.2.1, .int yo.2.2, ux, ux, ux] [] Mo 0 0 Q) (hW : WT M)   (hf : f_Mo_exchange_b24 rec v1 v2 v3 v4 v5 M = some (yo, Mo)) : PW G (d + 4) 298 24 [.ref 105, .int v1, .int v2, .int v3, .int v4, .int v5, ux, ux] [] M 0 0 Q := by
  refine P_iload d_298_24 rfl ?_
  refine P_aload_n d_298_26 rfl ?_
  refine A_gI d_298_27 cn_298 fk_CordLoftModel_369 k_105 hW ?_
  refine A_icmp_ge (tgt := 102) d_298_30 rfl hf (fun hf => ?_) (fun hf => ?_)
  · refine P_fgt [false, true, true, true, true, false, false, false] ?_
    cases hf
    exact k1 hW 
  · refine P_iload d_298_33 rfl ?_
    refine A_iconst d_298_35 ic_1 ?_
    refine P_iadd d_298_36 ?_
    refine A_istore d_298_37 ml_298 rfl rfl ?_
    obtain ⟨y1, M2, hl, hf⟩ := bnd_some hf
    refine t_Mo_exchange_l39 (fun hW => ?_)  fu _ _ _ _ _ hW  hl
    refine A_iinc d_298_96 ic_1 rfl ml_298 rfl rfl ?_
    refine P_goto (tgt := 24) d_298_99 rfl ?_
    exact hrec _ _ _ _ _ hW  hf
theorem t_Mo_exchange_l24 {G : GT} {d : Nat} {v1 : Int32} {Q : AM → Option Value → Prop} {yo : Int32 × Int32 × Int32} {Mo : AM} (k1 : WT Mo → PW G (d + 4) 298 102 [ux, .int v1, .int yo.1, .int yo.2.1, .int yo.2.2, ux, ux, ux] [] Mo 0 0 Q)  : ∀ (z : Nat) (v2 : Int32) (v3 : Int32) (v4 : Int32) (v5 : Int32) (M : AM), WT M → f_Mo_exchange_l24 v1 z v2 v3 v4 v5 M = some (yo, Mo) → PW G (d + 4) 298 24 [.ref 105, .int v1, .int v2, .int v3, .int v4, .int v5, ux, ux] [] M 0 0 Q := by
  intro z
  induction z with
  | zero => intro v2 v3 v4 v5 M hW hf; cases hf
  | succ z ih => intro v2 v3 v4 v5 M hW hf; exact t_Mo_exchange_b24 (fun v2 v3 v4 v5 M hW hf => ih v2 v3 v4 v5 M hW hf) k1 hW   hf
def f_Mo_exchange (a1 : Int32) (M : AM) : Option (Int32 × AM) :=
  bnd (f_Mo_isIn a1 0 2 M) (fun r1 M2 => if r1 = 0 then some ((-1), M2) else bnd (f_Mo_darkCost  M2) (fun r3 M4 => bnd (f_Mo_exchange_l24 a1 fu (-1) (-1) r3 0 M4) (fun y5 M6 => if 0 ≤ y5.1 then if a1 = 0 then some (y5.1, M6) else if a1 = 1 then some (y5.2.1, M6) else some (y5.2.2, M6) else some ((-1), M6))))
set_option maxRecDepth 20000 in
theorem t_Mo_exchange {G : GT} {d : Nat} {a1 : Int32} {M : AM} {Q : AM → Option Value → Prop} {r : Int32} {M' : AM} (hW : WT M)  (hf : f_Mo_exchange a1 M = some (r, M')) (k : WT M' → Q M' (some (.int r)))  : Cal G (d + 4) 298 [.ref 105, .int a1] M Q := by
  refine A_enter ml_298 rfl ?_
  refine P_iload_n d_298_0 rfl ?_
  refine A_iconst d_298_1 ic_0 ?_
  refine A_iconst d_298_2 ic_2 ?_
  refine A_S3 d_298_3 sk_298_399 ml_243 rfl rfl hf (fun r1 M2 hc hf => t_Mo_isIn hW  hc (fun hW hb2 => ?_))
  refine A_if_ne (tgt := 11) d_298_6 rfl hf (fun hf => ?_) (fun hf => ?_)
  · refine A_iconst d_298_11 ic_m1 ?_
    refine A_istore_n d_298_12 ml_298 rfl rfl ?_
    refine A_iconst d_298_13 ic_m1 ?_
    refine A_istore_n d_298_14 ml_298 rfl rfl ?_
    refine P_aload_n d_298_15 rfl ?_
    refine A_V0 d_298_16 vk_298_473 ml_299 rfl k_105 hW rfl hf (fun r3 M4 hc hf => t_Mo_darkCost hW  hc (fun hW => ?_))
    refine A_istore d_298_19 ml_298 rfl rfl ?_
    refine A_iconst d_298_21 ic_0 ?_
    refine A_istore d_298_22 ml_298 rfl rfl ?_
    obtain ⟨y5, M6, hl, hf⟩ := bnd_some hf
    refine t_Mo_exchange_l24 (fun hW => ?_)  fu _ _ _ _ _ hW  hl
    refine P_iload_n d_298_102 rfl ?_
    refine A_if_ge (tgt := 110) d_298_103 rfl hf (fun hf => ?_) (fun hf => ?_)
    · refine P_iload_n d_298_110 rfl ?_
      refine A_if_ne (tgt := 118) d_298_111 rfl hf (fun hf => ?_) (fun hf => ?_)
      · refine P_iload_n d_298_118 rfl ?_
        refine A_iconst d_298_119 ic_1 ?_
        refine A_icmp_ne (tgt := 127) d_298_120 rfl hf (fun hf => ?_) (fun hf => ?_)
        · refine P_iload d_298_127 rfl ?_
          exact A_iret d_298_129 mr_298 hW hf k
        · refine P_iload_n d_298_123 rfl ?_
          refine P_goto (tgt := 129) d_298_124 rfl ?_
          exact A_iret d_298_129 mr_298 hW hf k
      · refine P_iload_n d_298_114 rfl ?_
        refine P_goto (tgt := 129) d_298_115 rfl ?_
        exact A_iret d_298_129 mr_298 hW hf k
    · refine A_iconst d_298_106 ic_m1 ?_
      refine P_goto (tgt := 129) d_298_107 rfl ?_
      exact A_iret d_298_129 mr_298 hW hf k
  · refine A_iconst d_298_9 ic_m1 ?_
    exact A_iret d_298_10 mr_298 hW hf k
def f_Mo_loosen_j40 (rec : Int32 → Int32 → Int32 → AM → Option (Int32 × AM)) (v1 : Int32) (v2 : Int32) (v3 : Int32) (s0 : Int32) (M : AM) : Option (Int32 × AM) :=
  if v2 < s0 then rec v3 s0 (v3 + 1) M else rec v1 v2 (v3 + 1) M
set_option maxRecDepth 20000 in
theorem t_Mo_loosen_j40 {G : GT} {d : Nat} {v1 : Int32} {v2 : Int32} {v3 : Int32} {s0 : Int32} {M : AM} {Q : AM → Option Value → Prop} {yo : Int32} {Mo : AM} {rec : Int32 → Int32 → Int32 → AM → Option (Int32 × AM)} (hrec : ∀ (v1 : Int32) (v2 : Int32) (v3 : Int32) (M : AM), WT M → rec v1 v2 v3 M = some (yo, Mo) → PW G (d + 3) 301 6 [.ref 105, .int v1, .int v2, .int v3, ux] [] M 0 0 Q) (k1 : WT Mo → PW G (d + 3) 301 62 [ux, .int yo, ux, ux, ux] [] Mo 0 0 Q) (hW : WT M)  (hf : f_Mo_loosen_j40 rec v1 v2 v3 s0 M = some (yo, Mo)) : PW G (d + 3) 301 40 [.ref 105, .int v1, .int v2, .int v3, ux] [.int s0] M 0 0 Q := by
  refine A_istore d_301_40 ml_301 rfl rfl ?_
  refine P_iload d_301_42 rfl ?_
  refine P_iload_n d_301_44 rfl ?_
  refine A_icmp_gt (tgt := 51) d_301_45 rfl hf (fun hf => ?_) (fun hf => ?_)
  · refine P_iload_n d_301_51 rfl ?_
    refine A_istore_n d_301_52 ml_301 rfl rfl ?_
    refine P_iload d_301_53 rfl ?_
    refine A_istore_n d_301_55 ml_301 rfl rfl ?_
    refine A_iinc d_301_56 ic_1 rfl ml_301 rfl rfl ?_
    refine P_goto (tgt := 6) d_301_59 rfl ?_
    refine P_fgt [true, true, true, true, false] ?_
    exact hrec _ _ _ _ hW  hf
  · refine P_goto (tgt := 56) d_301_48 rfl ?_
    refine A_iinc d_301_56 ic_1 rfl ml_301 rfl rfl ?_
    refine P_goto (tgt := 6) d_301_59 rfl ?_
    refine P_fgt [true, true, true, true, false] ?_
    exact hrec _ _ _ _ hW  hf
def f_Mo_loosen_b6 (rec : Int32 → Int32 → Int32 → AM → Option (Int32 × AM))  (v1 : Int32) (v2 : Int32) (v3 : Int32) (M : AM) : Option (Int32 × AM) :=
  if (gI M 105 42) ≤ v3 then some (v1, M) else bnd (f_Mo_isTied v3 M) (fun r1 M2 => if r1 = 0 then f_Mo_loosen_j40 rec v1 v2 v3 (-1) M2 else bnd (f_Mo_free  M2) (fun r3 M4 => ald 8 M4 121 v3 (fun x5 => bnd (f_Mo_layPictures r3 x5 M4) (fun r6 M7 => f_Mo_loosen_j40 rec v1 v2 v3 r6 M7))))
def f_Mo_loosen_l6  : Nat → Int32 → Int32 → Int32 → AM → Option (Int32 × AM)
  | 0, _, _, _, _ => none
  | n + 1, v1, v2, v3, M => f_Mo_loosen_b6 (f_Mo_loosen_l6  n)  v1 v2 v3 M
set_option maxRecDepth 20000 in
theorem t_Mo_loosen_b6 {G : GT} {d : Nat}  {v1 : Int32} {v2 : Int32} {v3 : Int32} {M : AM} {Q : AM → Option Value → Prop} {yo : Int32} {Mo : AM} {rec : Int32 → Int32 → Int32 → AM → Option (Int32 × AM)} (hrec : ∀ (v1 : Int32) (v2 : Int32) (v3 : Int32) (M : AM), WT M → rec v1 v2 v3 M = some (yo, Mo) → PW G (d + 3) 301 6 [.ref 105, .int v1, .int v2, .int v3, ux] [] M 0 0 Q) (k1 : WT Mo → PW G (d + 3) 301 62 [ux, .int yo, ux, ux, ux] [] Mo 0 0 Q) (hW : WT M)   (hf : f_Mo_loosen_b6 rec  v1 v2 v3 M = some (yo, Mo)) : PW G (d + 3) 301 6 [.ref 105, .int v1, .int v2, .int v3, ux] [] M 0 0 Q := by
  refine P_iload_n d_301_6 rfl ?_
  refine P_aload_n d_301_7 rfl ?_
  refine A_gI d_301_8 cn_301 fk_CordLoftModel_369 k_105 hW ?_
  refine A_icmp_ge (tgt := 62) d_301_11 rfl hf (fun hf => ?_) (fun hf => ?_)
  · refine P_fgt [false, true, false, false, false] ?_
    cases hf
    exact k1 hW 
  · refine P_aload_n d_301_14 rfl ?_
    refine P_iload_n d_301_15 rfl ?_
    refine A_V1 d_301_16 vk_301_408 ml_249 rfl k_105 hW rfl hf (fun r1 M2 hc hf => t_Mo_isTied hW  hc (fun hW hb2 => ?_))
    refine A_if_eq (tgt := 39) d_301_19 rfl hf (fun hf => ?_) (fun hf => ?_)
    · refine A_iconst d_301_39 ic_m1 ?_
      exact t_Mo_loosen_j40 hrec k1 hW  hf
    · refine P_aload_n d_301_22 rfl ?_
      refine P_aload_n d_301_23 rfl ?_
      refine A_V0 d_301_24 vk_301_429 ml_268 rfl k_105 hW rfl hf (fun r3 M4 hc hf => t_Mo_free hW  hc (fun hW => ?_))
      refine P_aload_n d_301_27 rfl ?_
      refine A_gF d_301_28 cn_301 fk_CordLoftModel_60 ft_13_33 k_105 hW ?_
      refine P_iload_n d_301_31 rfl ?_
      refine A_iald d_301_32 k_121 l_121 hW hf (fun hf => ?_)
      refine A_V2 d_301_33 vk_301_454 ml_279 rfl k_105 hW rfl hf (fun r6 M7 hc hf => t_Mo_layPictures hW  hc (fun hW => ?_))
      refine P_goto (tgt := 40) d_301_36 rfl ?_
      exact t_Mo_loosen_j40 hrec k1 hW  hf
theorem t_Mo_loosen_l6 {G : GT} {d : Nat}  {Q : AM → Option Value → Prop} {yo : Int32} {Mo : AM} (k1 : WT Mo → PW G (d + 3) 301 62 [ux, .int yo, ux, ux, ux] [] Mo 0 0 Q)  : ∀ (z : Nat) (v1 : Int32) (v2 : Int32) (v3 : Int32) (M : AM), WT M → f_Mo_loosen_l6  z v1 v2 v3 M = some (yo, Mo) → PW G (d + 3) 301 6 [.ref 105, .int v1, .int v2, .int v3, ux] [] M 0 0 Q := by
  intro z
  induction z with
  | zero => intro v1 v2 v3 M hW hf; cases hf
  | succ z ih => intro v1 v2 v3 M hW hf; exact t_Mo_loosen_b6 (fun v1 v2 v3 M hW hf => ih v1 v2 v3 M hW hf) k1 hW   hf
def f_Mo_loosen  (M : AM) : Option (Int32 × AM) :=
  bnd (f_Mo_loosen_l6  fu (-1) (-1) 0 M) (fun y1 M2 => some (y1, M2))
set_option maxRecDepth 20000 in
theorem t_Mo_loosen {G : GT} {d : Nat}  {M : AM} {Q : AM → Option Value → Prop} {r : Int32} {M' : AM} (hW : WT M)  (hf : f_Mo_loosen  M = some (r, M')) (k : WT M' → Q M' (some (.int r)))  : Cal G (d + 3) 301 [.ref 105] M Q := by
  refine A_enter ml_301 rfl ?_
  refine A_iconst d_301_0 ic_m1 ?_
  refine A_istore_n d_301_1 ml_301 rfl rfl ?_
  refine A_iconst d_301_2 ic_m1 ?_
  refine A_istore_n d_301_3 ml_301 rfl rfl ?_
  refine A_iconst d_301_4 ic_0 ?_
  refine A_istore_n d_301_5 ml_301 rfl rfl ?_
  obtain ⟨y1, M2, hl, hf⟩ := bnd_some hf
  refine t_Mo_loosen_l6 (fun hW => ?_)  fu _ _ _ _ hW  hl
  refine P_iload_n d_301_62 rfl ?_
  exact A_iret d_301_63 mr_301 hW hf k
def f_Mo_boldest_j57 (rec : Int32 → Int32 → Int32 → AM → Option ((Int32 × Int32) × AM)) (v1 : Int32) (v2 : Int32) (v3 : Int32) (v4 : Int32) (s0 : Int32) (M : AM) : Option ((Int32 × Int32) × AM) :=
  if v3 < s0 then rec v4 s0 (v4 + 1) M else rec v2 v3 (v4 + 1) M
set_option maxRecDepth 20000 in
theorem t_Mo_boldest_j57 {G : GT} {d : Nat} {v1 : Int32} {v2 : Int32} {v3 : Int32} {v4 : Int32} {s0 : Int32} {M : AM} {Q : AM → Option Value → Prop} {yo : Int32 × Int32} {Mo : AM} {rec : Int32 → Int32 → Int32 → AM → Option ((Int32 × Int32) × AM)} (hrec : ∀ (v2 : Int32) (v3 : Int32) (v4 : Int32) (M : AM), WT M → rec v2 v3 v4 M = some (yo, Mo) → PW G (d + 2) 302 18 [.ref 105, .int v1, .int v2, .int v3, .int v4, ux] [] M 0 0 Q) (k1 : WT Mo → PW G (d + 2) 302 80 [ux, .int v1, .int yo.1, .int yo.2, ux, ux] [] Mo 0 0 Q) (hW : WT M)  (hf : f_Mo_boldest_j57 rec v1 v2 v3 v4 s0 M = some (yo, Mo)) : PW G (d + 2) 302 57 [.ref 105, .int v1, .int v2, .int v3, .int v4, ux] [.int s0] M 0 0 Q := by
  refine A_istore d_302_57 ml_302 rfl rfl ?_
  refine P_iload d_302_59 rfl ?_
  refine P_iload_n d_302_61 rfl ?_
  refine A_icmp_gt (tgt := 68) d_302_62 rfl hf (fun hf => ?_) (fun hf => ?_)
  · refine P_iload d_302_68 rfl ?_
    refine A_istore_n d_302_70 ml_302 rfl rfl ?_
    refine P_iload d_302_71 rfl ?_
    refine A_istore_n d_302_73 ml_302 rfl rfl ?_
    refine A_iinc d_302_74 ic_1 rfl ml_302 rfl rfl ?_
    refine P_goto (tgt := 18) d_302_77 rfl ?_
    refine P_fgt [true, true, true, true, true, false] ?_
    exact hrec _ _ _ _ hW  hf
  · refine P_goto (tgt := 74) d_302_65 rfl ?_
    refine A_iinc d_302_74 ic_1 rfl ml_302 rfl rfl ?_
    refine P_goto (tgt := 18) d_302_77 rfl ?_
    refine P_fgt [true, true, true, true, true, false] ?_
    exact hrec _ _ _ _ hW  hf
def f_Mo_boldest_b18 (rec : Int32 → Int32 → Int32 → AM → Option ((Int32 × Int32) × AM)) (v1 : Int32) (v2 : Int32) (v3 : Int32) (v4 : Int32) (M : AM) : Option ((Int32 × Int32) × AM) :=
  if (gI M 105 42) ≤ v4 then some ((v2, v3), M) else bnd (f_Mo_isTied v4 M) (fun r1 M2 => if r1 = 0 then ald 5 M2 123 0 (fun x3 => ald 8 M2 121 v4 (fun x4 => bnd (f_Mo_members (x3 ^^^ x4) M2) (fun r5 M6 => f_Mo_boldest_j57 rec v1 v2 v3 v4 r5 M6))) else f_Mo_boldest_j57 rec v1 v2 v3 v4 (-1) M2)
def f_Mo_boldest_l18 (v1 : Int32) : Nat → Int32 → Int32 → Int32 → AM → Option ((Int32 × Int32) × AM)
  | 0, _, _, _, _ => none
  | n + 1, v2, v3, v4, M => f_Mo_boldest_b18 (f_Mo_boldest_l18 v1 n) v1 v2 v3 v4 M
set_option maxRecDepth 20000 in
theorem t_Mo_boldest_b18 {G : GT} {d : Nat} {v1 : Int32} {v2 : Int32} {v3 : Int32} {v4 : Int32} {M : AM} {Q : AM → Option Value → Prop} {yo : Int32 × Int32} {Mo : AM} {rec : Int32 → Int32 → Int32 → AM → Option ((Int32 × Int32) × AM)} (hrec : ∀ (v2 : Int32) (v3 : Int32) (v4 : Int32) (M : AM), WT M → rec v2 v3 v4 M = some (yo, Mo) → PW G (d + 2) 302 18 [.ref 105, .int v1, .int v2, .int v3, .int v4, ux] [] M 0 0 Q) (k1 : WT Mo → PW G (d + 2) 302 80 [ux, .int v1, .int yo.1, .int yo.2, ux, ux] [] Mo 0 0 Q) (hW : WT M)   (hf : f_Mo_boldest_b18 rec v1 v2 v3 v4 M = some (yo, Mo)) : PW G (d + 2) 302 18 [.ref 105, .int v1, .int v2, .int v3, .int v4, ux] [] M 0 0 Q := by
  refine P_iload d_302_18 rfl ?_
  refine P_aload_n d_302_20 rfl ?_
  refine A_gI d_302_21 cn_302 fk_CordLoftModel_369 k_105 hW ?_
  refine A_icmp_ge (tgt := 80) d_302_24 rfl hf (fun hf => ?_) (fun hf => ?_)
  · refine P_fgt [false, true, true, true, false, false] ?_
    cases hf
    exact k1 hW 
  · refine P_aload_n d_302_27 rfl ?_
    refine P_iload d_302_28 rfl ?_
    refine A_V1 d_302_30 vk_302_408 ml_249 rfl k_105 hW rfl hf (fun r1 M2 hc hf => t_Mo_isTied hW  hc (fun hW hb2 => ?_))
    refine A_if_eq (tgt := 40) d_302_33 rfl hf (fun hf => ?_) (fun hf => ?_)
    · refine P_aload_n d_302_40 rfl ?_
      refine A_gF d_302_41 cn_302 fk_CordLoftModel_66 ft_13_50 k_105 hW ?_
      refine A_iconst d_302_44 ic_0 ?_
      refine A_iald d_302_45 k_123 l_123 hW hf (fun hf => ?_)
      refine P_aload_n d_302_46 rfl ?_
      refine A_gF d_302_47 cn_302 fk_CordLoftModel_60 ft_13_33 k_105 hW ?_
      refine P_iload d_302_50 rfl ?_
      refine A_iald d_302_52 k_121 l_121 hW hf (fun hf => ?_)
      refine P_ixor d_302_53 ?_
      refine A_S1 d_302_54 sk_302_290 ml_250 rfl rfl hf (fun r5 M6 hc hf => t_Mo_members hW  hc (fun hW => ?_))
      exact t_Mo_boldest_j57 hrec k1 hW  hf
    · refine A_iconst d_302_36 ic_m1 ?_
      refine P_goto (tgt := 57) d_302_37 rfl ?_
      exact t_Mo_boldest_j57 hrec k1 hW  hf
theorem t_Mo_boldest_l18 {G : GT} {d : Nat} {v1 : Int32} {Q : AM → Option Value → Prop} {yo : Int32 × Int32} {Mo : AM} (k1 : WT Mo → PW G (d + 2) 302 80 [ux, .int v1, .int yo.1, .int yo.2, ux, ux] [] Mo 0 0 Q)  : ∀ (z : Nat) (v2 : Int32) (v3 : Int32) (v4 : Int32) (M : AM), WT M → f_Mo_boldest_l18 v1 z v2 v3 v4 M = some (yo, Mo) → PW G (d + 2) 302 18 [.ref 105, .int v1, .int v2, .int v3, .int v4, ux] [] M 0 0 Q := by
  intro z
  induction z with
  | zero => intro v2 v3 v4 M hW hf; cases hf
  | succ z ih => intro v2 v3 v4 M hW hf; exact t_Mo_boldest_b18 (fun v2 v3 v4 M hW hf => ih v2 v3 v4 M hW hf) k1 hW   hf
def f_Mo_boldest (a1 : Int32) (M : AM) : Option (Int32 × AM) :=
  bnd (f_Mo_isIn a1 0 1 M) (fun r1 M2 => if r1 = 0 then some ((-1), M2) else bnd (f_Mo_boldest_l18 a1 fu (-1) (-1) 0 M2) (fun y3 M4 => if a1 = 0 then some (y3.1, M4) else some (y3.2, M4)))
set_option maxRecDepth 20000 in
theorem t_Mo_boldest {G : GT} {d : Nat} {a1 : Int32} {M : AM} {Q : AM → Option Value → Prop} {r : Int32} {M' : AM} (hW : WT M)  (hf : f_Mo_boldest a1 M = some (r, M')) (k : WT M' → Q M' (some (.int r)))  : Cal G (d + 2) 302 [.ref 105, .int a1] M Q := by
  refine A_enter ml_302 rfl ?_
  refine P_iload_n d_302_0 rfl ?_
  refine A_iconst d_302_1 ic_0 ?_
  refine A_iconst d_302_2 ic_1 ?_
  refine A_S3 d_302_3 sk_302_399 ml_243 rfl rfl hf (fun r1 M2 hc hf => t_Mo_isIn hW  hc (fun hW hb2 => ?_))
  refine A_if_ne (tgt := 11) d_302_6 rfl hf (fun hf => ?_) (fun hf => ?_)
  · refine A_iconst d_302_11 ic_m1 ?_
    refine A_istore_n d_302_12 ml_302 rfl rfl ?_
    refine A_iconst d_302_13 ic_m1 ?_
    refine A_istore_n d_302_14 ml_302 rfl rfl ?_
    refine A_iconst d_302_15 ic_0 ?_
    refine A_istore d_302_16 ml_302 rfl rfl ?_
    obtain ⟨y3, M4, hl, hf⟩ := bnd_some hf
    refine t_Mo_boldest_l18 (fun hW => ?_)  fu _ _ _ _ hW  hl
    refine P_iload_n d_302_80 rfl ?_
    refine A_if_ne (tgt := 88) d_302_81 rfl hf (fun hf => ?_) (fun hf => ?_)
    · refine P_iload_n d_302_88 rfl ?_
      exact A_iret d_302_89 mr_302 hW hf k
    · refine P_iload_n d_302_84 rfl ?_
      refine P_goto (tgt := 89) d_302_85 rfl ?_
      exact A_iret d_302_89 mr_302 hW hf k
  · refine A_iconst d_302_9 ic_m1 ?_
    exact A_iret d_302_10 mr_302 hW hf k
def f_Mo_alike_j56 (rec : Int32 → Int32 → AM → Option (Int32 × AM)) (v1 : Int32) (v3 : Int32) (s0 : Int32) (s1 : Int32) (M : AM) : Option (Int32 × AM) :=
  bnd (f_Mo_truth s1 M) (fun r1 M2 => rec (s0 ||| (r1 <<< (v3 &&& 31))) (v3 + 1) M2)
set_option maxRecDepth 20000 in
theorem t_Mo_alike_j56 {G : GT} {d : Nat} {v1 : Int32} {v3 : Int32} {s0 : Int32} {s1 : Int32} {M : AM} {Q : AM → Option Value → Prop} {yo : Int32} {Mo : AM} {rec : Int32 → Int32 → AM → Option (Int32 × AM)} (hrec : ∀ (v2 : Int32) (v3 : Int32) (M : AM), WT M → rec v2 v3 M = some (yo, Mo) → PW G (d + 2) 303 14 [.ref 105, .int v1, .int v2, .int v3] [] M 0 0 Q) (k1 : WT Mo → PW G (d + 2) 303 69 [ux, ux, .int yo, ux] [] Mo 0 0 Q) (hW : WT M)  (hf : f_Mo_alike_j56 rec v1 v3 s0 s1 M = some (yo, Mo)) : PW G (d + 2) 303 56 [.ref 105, .int v1, ux, .int v3] [.int s1, .int s0] M 0 0 Q := by
  refine A_S1 d_303_56 sk_303_283 ml_259 rfl rfl hf (fun r1 M2 hc hf => t_Mo_truth hW  hc (fun hW => ?_))
  refine P_iload_n d_303_59 rfl ?_
  refine P_ishl d_303_60 ?_
  refine P_ior d_303_61 ?_
  refine A_istore_n d_303_62 ml_303 rfl rfl ?_
  refine A_iinc d_303_63 ic_1 rfl ml_303 rfl rfl ?_
  refine P_goto (tgt := 14) d_303_66 rfl ?_
  exact hrec _ _ _ hW  hf
def f_Mo_alike_j55 (rec : Int32 → Int32 → AM → Option (Int32 × AM)) (v1 : Int32) (v3 : Int32) (s0 : Int32) (M : AM) : Option (Int32 × AM) :=
  f_Mo_alike_j56 rec v1 v3 s0 0 M
set_option maxRecDepth 20000 in
theorem t_Mo_alike_j55 {G : GT} {d : Nat} {v1 : Int32} {v3 : Int32} {s0 : Int32} {M : AM} {Q : AM → Option Value → Prop} {yo : Int32} {Mo : AM} {rec : Int32 → Int32 → AM → Option (Int32 × AM)} (hrec : ∀ (v2 : Int32) (v3 : Int32) (M : AM), WT M → rec v2 v3 M = some (yo, Mo) → PW G (d + 2) 303 14 [.ref 105, .int v1, .int v2, .int v3] [] M 0 0 Q) (k1 : WT Mo → PW G (d + 2) 303 69 [ux, ux, .int yo, ux] [] Mo 0 0 Q) (hW : WT M)  (hf : f_Mo_alike_j55 rec v1 v3 s0 M = some (yo, Mo)) : PW G (d + 2) 303 55 [.ref 105, .int v1, ux, .int v3] [.int s0] M 0 0 Q := by
  refine A_iconst d_303_55 ic_0 ?_
  exact t_Mo_alike_j56 hrec k1 hW  hf
def f_Mo_alike_b14 (rec : Int32 → Int32 → AM → Option (Int32 × AM)) (v1 : Int32) (v2 : Int32) (v3 : Int32) (M : AM) : Option (Int32 × AM) :=
  if (gI M 105 41) ≤ v3 then some (v2, M) else if v3 = v1 then f_Mo_alike_j55 rec v1 v3 v2 M else bnd (f_Mo_cordsOf v3 M) (fun r1 M2 => bnd (f_Mo_free  M2) (fun r3 M4 => bnd (f_Mo_cordsOf v1 M4) (fun r5 M6 => bnd (f_Mo_free  M6) (fun r7 M8 => if (r1 &&& r3) = (r5 &&& r7) then f_Mo_alike_j56 rec v1 v3 v2 1 M8 else f_Mo_alike_j55 rec v1 v3 v2 M8))))
def f_Mo_alike_l14 (v1 : Int32) : Nat → Int32 → Int32 → AM → Option (Int32 × AM)
  | 0, _, _, _ => none
  | n + 1, v2, v3, M => f_Mo_alike_b14 (f_Mo_alike_l14 v1 n) v1 v2 v3 M
set_option maxRecDepth 20000 in
theorem t_Mo_alike_b14 {G : GT} {d : Nat} {v1 : Int32} {v2 : Int32} {v3 : Int32} {M : AM} {Q : AM → Option Value → Prop} {yo : Int32} {Mo : AM} {rec : Int32 → Int32 → AM → Option (Int32 × AM)} (hrec : ∀ (v2 : Int32) (v3 : Int32) (M : AM), WT M → rec v2 v3 M = some (yo, Mo) → PW G (d + 2) 303 14 [.ref 105, .int v1, .int v2, .int v3] [] M 0 0 Q) (k1 : WT Mo → PW G (d + 2) 303 69 [ux, ux, .int yo, ux] [] Mo 0 0 Q) (hW : WT M)   (hf : f_Mo_alike_b14 rec v1 v2 v3 M = some (yo, Mo)) : PW G (d + 2) 303 14 [.ref 105, .int v1, .int v2, .int v3] [] M 0 0 Q := by
  refine P_iload_n d_303_14 rfl ?_
  refine P_aload_n d_303_15 rfl ?_
  refine A_gI d_303_16 cn_303 fk_CordLoftModel_303 k_105 hW ?_
  refine A_icmp_ge (tgt := 69) d_303_19 rfl hf (fun hf => ?_) (fun hf => ?_)
  · refine P_fgt [false, false, true, false] ?_
    cases hf
    exact k1 hW 
  · refine P_iload_n d_303_22 rfl ?_
    refine P_iload_n d_303_23 rfl ?_
    refine P_iload_n d_303_24 rfl ?_
    refine A_icmp_eq (tgt := 55) d_303_25 rfl hf (fun hf => ?_) (fun hf => ?_)
    · refine P_fgt [true, true, false, true] ?_
      exact t_Mo_alike_j55 hrec k1 hW  hf
    · refine P_aload_n d_303_28 rfl ?_
      refine P_iload_n d_303_29 rfl ?_
      refine A_V1 d_303_30 vk_303_293 ml_244 rfl k_105 hW rfl hf (fun r1 M2 hc hf => t_Mo_cordsOf hW  hc (fun hW => ?_))
      refine P_aload_n d_303_33 rfl ?_
      refine A_V0 d_303_34 vk_303_429 ml_268 rfl k_105 hW rfl hf (fun r3 M4 hc hf => t_Mo_free hW  hc (fun hW => ?_))
      refine P_iand d_303_37 ?_
      refine P_aload_n d_303_38 rfl ?_
      refine P_iload_n d_303_39 rfl ?_
      refine A_V1 d_303_40 vk_303_293 ml_244 rfl k_105 hW rfl hf (fun r5 M6 hc hf => t_Mo_cordsOf hW  hc (fun hW => ?_))
      refine P_aload_n d_303_43 rfl ?_
      refine A_V0 d_303_44 vk_303_429 ml_268 rfl k_105 hW rfl hf (fun r7 M8 hc hf => t_Mo_free hW  hc (fun hW => ?_))
      refine P_iand d_303_47 ?_
      refine A_icmp_ne (tgt := 55) d_303_48 rfl hf (fun hf => ?_) (fun hf => ?_)
      · refine P_fgt [true, true, false, true] ?_
        exact t_Mo_alike_j55 hrec k1 hW  hf
      · refine A_iconst d_303_51 ic_1 ?_
        refine P_goto (tgt := 56) d_303_52 rfl ?_
        refine P_fgt [true, true, false, true] ?_
        exact t_Mo_alike_j56 hrec k1 hW  hf
theorem t_Mo_alike_l14 {G : GT} {d : Nat} {v1 : Int32} {Q : AM → Option Value → Prop} {yo : Int32} {Mo : AM} (k1 : WT Mo → PW G (d + 2) 303 69 [ux, ux, .int yo, ux] [] Mo 0 0 Q)  : ∀ (z : Nat) (v2 : Int32) (v3 : Int32) (M : AM), WT M → f_Mo_alike_l14 v1 z v2 v3 M = some (yo, Mo) → PW G (d + 2) 303 14 [.ref 105, .int v1, .int v2, .int v3] [] M 0 0 Q := by
  intro z
  induction z with
  | zero => intro v2 v3 M hW hf; cases hf
  | succ z ih => intro v2 v3 M hW hf; exact t_Mo_alike_b14 (fun v2 v3 M hW hf => ih v2 v3 M hW hf) k1 hW   hf
def f_Mo_alike (a1 : Int32) (M : AM) : Option (Int32 × AM) :=
  bnd (f_Mo_isLamp a1 M) (fun r1 M2 => if r1 = 0 then some ((-1), M2) else bnd (f_Mo_alike_l14 a1 fu 0 0 M2) (fun y3 M4 => some (y3, M4)))
set_option maxRecDepth 20000 in
theorem t_Mo_alike {G : GT} {d : Nat} {a1 : Int32} {M : AM} {Q : AM → Option Value → Prop} {r : Int32} {M' : AM} (hW : WT M)  (hf : f_Mo_alike a1 M = some (r, M')) (k : WT M' → Q M' (some (.int r)))  : Cal G (d + 2) 303 [.ref 105, .int a1] M Q := by
  refine A_enter ml_303 rfl ?_
  refine P_aload_n d_303_0 rfl ?_
  refine P_iload_n d_303_1 rfl ?_
  refine A_V1 d_303_2 vk_303_402 ml_242 rfl k_105 hW rfl hf (fun r1 M2 hc hf => t_Mo_isLamp hW  hc (fun hW hb2 => ?_))
  refine A_if_ne (tgt := 10) d_303_5 rfl hf (fun hf => ?_) (fun hf => ?_)
  · refine A_iconst d_303_10 ic_0 ?_
    refine A_istore_n d_303_11 ml_303 rfl rfl ?_
    refine A_iconst d_303_12 ic_0 ?_
    refine A_istore_n d_303_13 ml_303 rfl rfl ?_
    obtain ⟨y3, M4, hl, hf⟩ := bnd_some hf
    refine t_Mo_alike_l14 (fun hW => ?_)  fu _ _ _ hW  hl
    refine P_iload_n d_303_69 rfl ?_
    exact A_iret d_303_70 mr_303 hW hf k
  · refine A_iconst d_303_8 ic_m1 ?_
    exact A_iret d_303_9 mr_303 hW hf k
def f_Mo_alone_j31 (rec : Int32 → Int32 → AM → Option (Int32 × AM)) (v2 : Int32) (s0 : Int32) (s1 : Int32) (M : AM) : Option (Int32 × AM) :=
  bnd (f_Mo_truth s1 M) (fun r1 M2 => rec (s0 ||| (r1 <<< (v2 &&& 31))) (v2 + 1) M2)
set_option maxRecDepth 20000 in
theorem t_Mo_alone_j31 {G : GT} {d : Nat} {v2 : Int32} {s0 : Int32} {s1 : Int32} {M : AM} {Q : AM → Option Value → Prop} {yo : Int32} {Mo : AM} {rec : Int32 → Int32 → AM → Option (Int32 × AM)} (hrec : ∀ (v1 : Int32) (v2 : Int32) (M : AM), WT M → rec v1 v2 M = some (yo, Mo) → PW G (d + 1) 304 4 [.ref 105, .int v1, .int v2] [] M 0 0 Q) (k1 : WT Mo → PW G (d + 1) 304 44 [ux, .int yo, ux] [] Mo 0 0 Q) (hW : WT M)  (hf : f_Mo_alone_j31 rec v2 s0 s1 M = some (yo, Mo)) : PW G (d + 1) 304 31 [.ref 105, ux, .int v2] [.int s1, .int s0] M 0 0 Q := by
  refine A_S1 d_304_31 sk_304_283 ml_259 rfl rfl hf (fun r1 M2 hc hf => t_Mo_truth hW  hc (fun hW => ?_))
  refine P_iload_n d_304_34 rfl ?_
  refine P_ishl d_304_35 ?_
  refine P_ior d_304_36 ?_
  refine A_istore_n d_304_37 ml_304 rfl rfl ?_
  refine A_iinc d_304_38 ic_1 rfl ml_304 rfl rfl ?_
  refine P_goto (tgt := 4) d_304_41 rfl ?_
  exact hrec _ _ _ hW  hf
def f_Mo_alone_b4 (rec : Int32 → Int32 → AM → Option (Int32 × AM))  (v1 : Int32) (v2 : Int32) (M : AM) : Option (Int32 × AM) :=
  if (gI M 105 41) ≤ v2 then some (v1, M) else bnd (f_Mo_cordsOf v2 M) (fun r1 M2 => bnd (f_Mo_free  M2) (fun r3 M4 => if (r1 &&& r3) = 0 then f_Mo_alone_j31 rec v2 v1 1 M4 else f_Mo_alone_j31 rec v2 v1 0 M4))
def f_Mo_alone_l4  : Nat → Int32 → Int32 → AM → Option (Int32 × AM)
  | 0, _, _, _ => none
  | n + 1, v1, v2, M => f_Mo_alone_b4 (f_Mo_alone_l4  n)  v1 v2 M
set_option maxRecDepth 20000 in
theorem t_Mo_alone_b4 {G : GT} {d : Nat}  {v1 : Int32} {v2 : Int32} {M : AM} {Q : AM → Option Value → Prop} {yo : Int32} {Mo : AM} {rec : Int32 → Int32 → AM → Option (Int32 × AM)} (hrec : ∀ (v1 : Int32) (v2 : Int32) (M : AM), WT M → rec v1 v2 M = some (yo, Mo) → PW G (d + 1) 304 4 [.ref 105, .int v1, .int v2] [] M 0 0 Q) (k1 : WT Mo → PW G (d + 1) 304 44 [ux, .int yo, ux] [] Mo 0 0 Q) (hW : WT M)   (hf : f_Mo_alone_b4 rec  v1 v2 M = some (yo, Mo)) : PW G (d + 1) 304 4 [.ref 105, .int v1, .int v2] [] M 0 0 Q := by
  refine P_iload_n d_304_4 rfl ?_
  refine P_aload_n d_304_5 rfl ?_
  refine A_gI d_304_6 cn_304 fk_CordLoftModel_303 k_105 hW ?_
  refine A_icmp_ge (tgt := 44) d_304_9 rfl hf (fun hf => ?_) (fun hf => ?_)
  · refine P_fgt [false, true, false] ?_
    cases hf
    exact k1 hW 
  · refine P_iload_n d_304_12 rfl ?_
    refine P_aload_n d_304_13 rfl ?_
    refine P_iload_n d_304_14 rfl ?_
    refine A_V1 d_304_15 vk_304_293 ml_244 rfl k_105 hW rfl hf (fun r1 M2 hc hf => t_Mo_cordsOf hW  hc (fun hW => ?_))
    refine P_aload_n d_304_18 rfl ?_
    refine A_V0 d_304_19 vk_304_429 ml_268 rfl k_105 hW rfl hf (fun r3 M4 hc hf => t_Mo_free hW  hc (fun hW => ?_))
    refine P_iand d_304_22 ?_
    refine A_if_ne (tgt := 30) d_304_23 rfl hf (fun hf => ?_) (fun hf => ?_)
    · refine A_iconst d_304_30 ic_0 ?_
      refine P_fgt [true, false, true] ?_
      exact t_Mo_alone_j31 hrec k1 hW  hf
    · refine A_iconst d_304_26 ic_1 ?_
      refine P_goto (tgt := 31) d_304_27 rfl ?_
      refine P_fgt [true, false, true] ?_
      exact t_Mo_alone_j31 hrec k1 hW  hf
theorem t_Mo_alone_l4 {G : GT} {d : Nat}  {Q : AM → Option Value → Prop} {yo : Int32} {Mo : AM} (k1 : WT Mo → PW G (d + 1) 304 44 [ux, .int yo, ux] [] Mo 0 0 Q)  : ∀ (z : Nat) (v1 : Int32) (v2 : Int32) (M : AM), WT M → f_Mo_alone_l4  z v1 v2 M = some (yo, Mo) → PW G (d + 1) 304 4 [.ref 105, .int v1, .int v2] [] M 0 0 Q := by
  intro z
  induction z with
  | zero => intro v1 v2 M hW hf; cases hf
  | succ z ih => intro v1 v2 M hW hf; exact t_Mo_alone_b4 (fun v1 v2 M hW hf => ih v1 v2 M hW hf) k1 hW   hf
def f_Mo_alone  (M : AM) : Option (Int32 × AM) :=
  bnd (f_Mo_alone_l4  fu 0 0 M) (fun y1 M2 => some (y1, M2))
set_option maxRecDepth 20000 in
theorem t_Mo_alone {G : GT} {d : Nat}  {M : AM} {Q : AM → Option Value → Prop} {r : Int32} {M' : AM} (hW : WT M)  (hf : f_Mo_alone  M = some (r, M')) (k : WT M' → Q M' (some (.int r)))  : Cal G (d + 1) 304 [.ref 105] M Q := by
  refine A_enter ml_304 rfl ?_
  refine A_iconst d_304_0 ic_0 ?_
  refine A_istore_n d_304_1 ml_304 rfl rfl ?_
  refine A_iconst d_304_2 ic_0 ?_
  refine A_istore_n d_304_3 ml_304 rfl rfl ?_
  obtain ⟨y1, M2, hl, hf⟩ := bnd_some hf
  refine t_Mo_alone_l4 (fun hW => ?_)  fu _ _ _ hW  hl
  refine P_iload_n d_304_44 rfl ?_
  exact A_iret d_304_45 mr_304 hW hf k
def f_Mo_burning  (M : AM) : Option (Int32 × AM) :=
  ald 5 M 123 0 (fun x1 => bnd (f_Mo_members x1 M) (fun r2 M3 => some (r2, M3)))
set_option maxRecDepth 20000 in
theorem t_Mo_burning {G : GT} {d : Nat}  {M : AM} {Q : AM → Option Value → Prop} {r : Int32} {M' : AM} (hW : WT M)  (hf : f_Mo_burning  M = some (r, M')) (k : WT M' → Q M' (some (.int r)))  : Cal G (d + 1) 305 [.ref 105] M Q := by
  refine A_enter ml_305 rfl ?_
  refine P_aload_n d_305_0 rfl ?_
  refine A_gF d_305_1 cn_305 fk_CordLoftModel_66 ft_13_50 k_105 hW ?_
  refine A_iconst d_305_4 ic_0 ?_
  refine A_iald d_305_5 k_123 l_123 hW hf (fun hf => ?_)
  refine A_S1 d_305_6 sk_305_290 ml_250 rfl rfl hf (fun r2 M3 hc hf => t_Mo_members hW  hc (fun hW => ?_))
  exact A_iret d_305_9 mr_305 hW hf k
def f_Mo_load  (M : AM) : Option (Int32 × AM) :=
  ald 5 M 123 0 (fun x1 => bnd (f_Mo_wattsOf x1 M) (fun r2 M3 => some (r2, M3)))
set_option maxRecDepth 20000 in
theorem t_Mo_load {G : GT} {d : Nat}  {M : AM} {Q : AM → Option Value → Prop} {r : Int32} {M' : AM} (hW : WT M)  (hf : f_Mo_load  M = some (r, M')) (k : WT M' → Q M' (some (.int r)))  : Cal G (d + 2) 306 [.ref 105] M Q := by
  refine A_enter ml_306 rfl ?_
  refine P_aload_n d_306_0 rfl ?_
  refine P_aload_n d_306_1 rfl ?_
  refine A_gF d_306_2 cn_306 fk_CordLoftModel_66 ft_13_50 k_105 hW ?_
  refine A_iconst d_306_5 ic_0 ?_
  refine A_iald d_306_6 k_123 l_123 hW hf (fun hf => ?_)
  refine A_V1 d_306_7 vk_306_463 ml_285 rfl k_105 hW rfl hf (fun r2 M3 hc hf => t_Mo_wattsOf hW  hc (fun hW => ?_))
  exact A_iret d_306_10 mr_306 hW hf k
def f_Mo_longest_b4 (rec : Int32 → Int32 → AM → Option (Int32 × AM))  (v1 : Int32) (v2 : Int32) (M : AM) : Option (Int32 × AM) :=
  if (gI M 105 42) ≤ v2 then some (v1, M) else if v1 < 0 then rec v2 (v2 + 1) M else ald 8 M 121 v2 (fun x1 => bnd (f_Mo_members x1 M) (fun r2 M3 => ald 8 M3 121 v1 (fun x4 => bnd (f_Mo_members x4 M3) (fun r5 M6 => if r2 ≤ r5 then rec v1 (v2 + 1) M6 else rec v2 (v2 + 1) M6))))
def f_Mo_longest_l4  : Nat → Int32 → Int32 → AM → Option (Int32 × AM)
  | 0, _, _, _ => none
  | n + 1, v1, v2, M => f_Mo_longest_b4 (f_Mo_longest_l4  n)  v1 v2 M
set_option maxRecDepth 20000 in
theorem t_Mo_longest_b4 {G : GT} {d : Nat}  {v1 : Int32} {v2 : Int32} {M : AM} {Q : AM → Option Value → Prop} {yo : Int32} {Mo : AM} {rec : Int32 → Int32 → AM → Option (Int32 × AM)} (hrec : ∀ (v1 : Int32) (v2 : Int32) (M : AM), WT M → rec v1 v2 M = some (yo, Mo) → PW G (d + 1) 307 4 [.ref 105, .int v1, .int v2] [] M 0 0 Q) (k1 : WT Mo → PW G (d + 1) 307 45 [ux, .int yo, ux] [] Mo 0 0 Q) (hW : WT M)   (hf : f_Mo_longest_b4 rec  v1 v2 M = some (yo, Mo)) : PW G (d + 1) 307 4 [.ref 105, .int v1, .int v2] [] M 0 0 Q := by
  refine P_iload_n d_307_4 rfl ?_
  refine P_aload_n d_307_5 rfl ?_
  refine A_gI d_307_6 cn_307 fk_CordLoftModel_369 k_105 hW ?_
  refine A_icmp_ge (tgt := 45) d_307_9 rfl hf (fun hf => ?_) (fun hf => ?_)
  · refine P_fgt [false, true, false] ?_
    cases hf
    exact k1 hW 
  · refine P_iload_n d_307_12 rfl ?_
    refine A_if_lt (tgt := 37) d_307_13 rfl hf (fun hf => ?_) (fun hf => ?_)
    · refine P_iload_n d_307_37 rfl ?_
      refine A_istore_n d_307_38 ml_307 rfl rfl ?_
      refine A_iinc d_307_39 ic_1 rfl ml_307 rfl rfl ?_
      refine P_goto (tgt := 4) d_307_42 rfl ?_
      exact hrec _ _ _ hW  hf
    · refine P_aload_n d_307_16 rfl ?_
      refine A_gF d_307_17 cn_307 fk_CordLoftModel_60 ft_13_33 k_105 hW ?_
      refine P_iload_n d_307_20 rfl ?_
      refine A_iald d_307_21 k_121 l_121 hW hf (fun hf => ?_)
      refine A_S1 d_307_22 sk_307_290 ml_250 rfl rfl hf (fun r2 M3 hc hf => t_Mo_members hW  hc (fun hW => ?_))
      refine P_aload_n d_307_25 rfl ?_
      refine A_gF d_307_26 cn_307 fk_CordLoftModel_60 ft_13_33 k_105 hW ?_
      refine P_iload_n d_307_29 rfl ?_
      refine A_iald d_307_30 k_121 l_121 hW hf (fun hf => ?_)
      refine A_S1 d_307_31 sk_307_290 ml_250 rfl rfl hf (fun r5 M6 hc hf => t_Mo_members hW  hc (fun hW => ?_))
      refine A_icmp_le (tgt := 39) d_307_34 rfl hf (fun hf => ?_) (fun hf => ?_)
      · refine A_iinc d_307_39 ic_1 rfl ml_307 rfl rfl ?_
        refine P_goto (tgt := 4) d_307_42 rfl ?_
        exact hrec _ _ _ hW  hf
      · refine P_iload_n d_307_37 rfl ?_
        refine A_istore_n d_307_38 ml_307 rfl rfl ?_
        refine A_iinc d_307_39 ic_1 rfl ml_307 rfl rfl ?_
        refine P_goto (tgt := 4) d_307_42 rfl ?_
        exact hrec _ _ _ hW  hf
theorem t_Mo_longest_l4 {G : GT} {d : Nat}  {Q : AM → Option Value → Prop} {yo : Int32} {Mo : AM} (k1 : WT Mo → PW G (d + 1) 307 45 [ux, .int yo, ux] [] Mo 0 0 Q)  : ∀ (z : Nat) (v1 : Int32) (v2 : Int32) (M : AM), WT M → f_Mo_longest_l4  z v1 v2 M = some (yo, Mo) → PW G (d + 1) 307 4 [.ref 105, .int v1, .int v2] [] M 0 0 Q := by
  intro z
  induction z with
  | zero => intro v1 v2 M hW hf; cases hf
  | succ z ih => intro v1 v2 M hW hf; exact t_Mo_longest_b4 (fun v1 v2 M hW hf => ih v1 v2 M hW hf) k1 hW   hf
def f_Mo_longest  (M : AM) : Option (Int32 × AM) :=
  bnd (f_Mo_longest_l4  fu (-1) 0 M) (fun y1 M2 => some (y1, M2))
set_option maxRecDepth 20000 in
theorem t_Mo_longest {G : GT} {d : Nat}  {M : AM} {Q : AM → Option Value → Prop} {r : Int32} {M' : AM} (hW : WT M)  (hf : f_Mo_longest  M = some (r, M')) (k : WT M' → Q M' (some (.int r)))  : Cal G (d + 1) 307 [.ref 105] M Q := by
  refine A_enter ml_307 rfl ?_
  refine A_iconst d_307_0 ic_m1 ?_
  refine A_istore_n d_307_1 ml_307 rfl rfl ?_
  refine A_iconst d_307_2 ic_0 ?_
  refine A_istore_n d_307_3 ml_307 rfl rfl ?_
  obtain ⟨y1, M2, hl, hf⟩ := bnd_some hf
  refine t_Mo_longest_l4 (fun hW => ?_)  fu _ _ _ hW  hl
  refine P_iload_n d_307_45 rfl ?_
  exact A_iret d_307_46 mr_307 hW hf k
def f_Mo_dearest_b4 (rec : Int32 → Int32 → AM → Option (Int32 × AM))  (v1 : Int32) (v2 : Int32) (M : AM) : Option (Int32 × AM) :=
  if (gI M 105 42) ≤ v2 then some (v1, M) else bnd (f_Mo_isTied v2 M) (fun r1 M2 => if r1 = 0 then if v1 < 0 then rec v2 (v2 + 1) M2 else ald 8 M2 122 v2 (fun x3 => ald 8 M2 122 v1 (fun x4 => if x3 ≤ x4 then rec v1 (v2 + 1) M2 else rec v2 (v2 + 1) M2)) else rec v1 (v2 + 1) M2)
def f_Mo_dearest_l4  : Nat → Int32 → Int32 → AM → Option (Int32 × AM)
  | 0, _, _, _ => none
  | n + 1, v1, v2, M => f_Mo_dearest_b4 (f_Mo_dearest_l4  n)  v1 v2 M
set_option maxRecDepth 20000 in
theorem t_Mo_dearest_b4 {G : GT} {d : Nat}  {v1 : Int32} {v2 : Int32} {M : AM} {Q : AM → Option Value → Prop} {yo : Int32} {Mo : AM} {rec : Int32 → Int32 → AM → Option (Int32 × AM)} (hrec : ∀ (v1 : Int32) (v2 : Int32) (M : AM), WT M → rec v1 v2 M = some (yo, Mo) → PW G (d + 2) 308 4 [.ref 105, .int v1, .int v2] [] M 0 0 Q) (k1 : WT Mo → PW G (d + 2) 308 47 [ux, .int yo, ux] [] Mo 0 0 Q) (hW : WT M)   (hf : f_Mo_dearest_b4 rec  v1 v2 M = some (yo, Mo)) : PW G (d + 2) 308 4 [.ref 105, .int v1, .int v2] [] M 0 0 Q := by
  refine P_iload_n d_308_4 rfl ?_
  refine P_aload_n d_308_5 rfl ?_
  refine A_gI d_308_6 cn_308 fk_CordLoftModel_369 k_105 hW ?_
  refine A_icmp_ge (tgt := 47) d_308_9 rfl hf (fun hf => ?_) (fun hf => ?_)
  · refine P_fgt [false, true, false] ?_
    cases hf
    exact k1 hW 
  · refine P_aload_n d_308_12 rfl ?_
    refine P_iload_n d_308_13 rfl ?_
    refine A_V1 d_308_14 vk_308_408 ml_249 rfl k_105 hW rfl hf (fun r1 M2 hc hf => t_Mo_isTied hW  hc (fun hW hb2 => ?_))
    refine A_if_ne (tgt := 41) d_308_17 rfl hf (fun hf => ?_) (fun hf => ?_)
    · refine A_iinc d_308_41 ic_1 rfl ml_308 rfl rfl ?_
      refine P_goto (tgt := 4) d_308_44 rfl ?_
      exact hrec _ _ _ hW  hf
    · refine P_iload_n d_308_20 rfl ?_
      refine A_if_lt (tgt := 39) d_308_21 rfl hf (fun hf => ?_) (fun hf => ?_)
      · refine P_iload_n d_308_39 rfl ?_
        refine A_istore_n d_308_40 ml_308 rfl rfl ?_
        refine A_iinc d_308_41 ic_1 rfl ml_308 rfl rfl ?_
        refine P_goto (tgt := 4) d_308_44 rfl ?_
        exact hrec _ _ _ hW  hf
      · refine P_aload_n d_308_24 rfl ?_
        refine A_gF d_308_25 cn_308 fk_CordLoftModel_63 ft_13_34 k_105 hW ?_
        refine P_iload_n d_308_28 rfl ?_
        refine A_iald d_308_29 k_122 l_122 hW hf (fun hf => ?_)
        refine P_aload_n d_308_30 rfl ?_
        refine A_gF d_308_31 cn_308 fk_CordLoftModel_63 ft_13_34 k_105 hW ?_
        refine P_iload_n d_308_34 rfl ?_
        refine A_iald d_308_35 k_122 l_122 hW hf (fun hf => ?_)
        refine A_icmp_le (tgt := 41) d_308_36 rfl hf (fun hf => ?_) (fun hf => ?_)
        · refine A_iinc d_308_41 ic_1 rfl ml_308 rfl rfl ?_
          refine P_goto (tgt := 4) d_308_44 rfl ?_
          exact hrec _ _ _ hW  hf
        · refine P_iload_n d_308_39 rfl ?_
          refine A_istore_n d_308_40 ml_308 rfl rfl ?_
          refine A_iinc d_308_41 ic_1 rfl ml_308 rfl rfl ?_
          refine P_goto (tgt := 4) d_308_44 rfl ?_
          exact hrec _ _ _ hW  hf
theorem t_Mo_dearest_l4 {G : GT} {d : Nat}  {Q : AM → Option Value → Prop} {yo : Int32} {Mo : AM} (k1 : WT Mo → PW G (d + 2) 308 47 [ux, .int yo, ux] [] Mo 0 0 Q)  : ∀ (z : Nat) (v1 : Int32) (v2 : Int32) (M : AM), WT M → f_Mo_dearest_l4  z v1 v2 M = some (yo, Mo) → PW G (d + 2) 308 4 [.ref 105, .int v1, .int v2] [] M 0 0 Q := by
  intro z
  induction z with
  | zero => intro v1 v2 M hW hf; cases hf
  | succ z ih => intro v1 v2 M hW hf; exact t_Mo_dearest_b4 (fun v1 v2 M hW hf => ih v1 v2 M hW hf) k1 hW   hf
def f_Mo_dearest  (M : AM) : Option (Int32 × AM) :=
  bnd (f_Mo_dearest_l4  fu (-1) 0 M) (fun y1 M2 => some (y1, M2))
set_option maxRecDepth 20000 in
theorem t_Mo_dearest {G : GT} {d : Nat}  {M : AM} {Q : AM → Option Value → Prop} {r : Int32} {M' : AM} (hW : WT M)  (hf : f_Mo_dearest  M = some (r, M')) (k : WT M' → Q M' (some (.int r)))  : Cal G (d + 2) 308 [.ref 105] M Q := by
  refine A_enter ml_308 rfl ?_
  refine A_iconst d_308_0 ic_m1 ?_
  refine A_istore_n d_308_1 ml_308 rfl rfl ?_
  refine A_iconst d_308_2 ic_0 ?_
  refine A_istore_n d_308_3 ml_308 rfl rfl ?_
  obtain ⟨y1, M2, hl, hf⟩ := bnd_some hf
  refine t_Mo_dearest_l4 (fun hW => ?_)  fu _ _ _ hW  hl
  refine P_iload_n d_308_47 rfl ?_
  exact A_iret d_308_48 mr_308 hW hf k
def f_Mo_odd_j41 (rec : Int32 → Int32 → AM → Option (Int32 × AM)) (v2 : Int32) (s0 : Int32) (s1 : Int32) (M : AM) : Option (Int32 × AM) :=
  bnd (f_Mo_truth s1 M) (fun r1 M2 => rec (s0 ||| (r1 <<< (v2 &&& 31))) (v2 + 1) M2)
set_option maxRecDepth 20000 in
theorem t_Mo_odd_j41 {G : GT} {d : Nat} {v2 : Int32} {s0 : Int32} {s1 : Int32} {M : AM} {Q : AM → Option Value → Prop} {yo : Int32} {Mo : AM} {rec : Int32 → Int32 → AM → Option (Int32 × AM)} (hrec : ∀ (v1 : Int32) (v2 : Int32) (M : AM), WT M → rec v1 v2 M = some (yo, Mo) → PW G (d + 2) 309 4 [.ref 105, .int v1, .int v2] [] M 0 0 Q) (k1 : WT Mo → PW G (d + 2) 309 54 [ux, .int yo, ux] [] Mo 0 0 Q) (hW : WT M)  (hf : f_Mo_odd_j41 rec v2 s0 s1 M = some (yo, Mo)) : PW G (d + 2) 309 41 [.ref 105, ux, .int v2] [.int s1, .int s0] M 0 0 Q := by
  refine A_S1 d_309_41 sk_309_283 ml_259 rfl rfl hf (fun r1 M2 hc hf => t_Mo_truth hW  hc (fun hW => ?_))
  refine P_iload_n d_309_44 rfl ?_
  refine P_ishl d_309_45 ?_
  refine P_ior d_309_46 ?_
  refine A_istore_n d_309_47 ml_309 rfl rfl ?_
  refine A_iinc d_309_48 ic_1 rfl ml_309 rfl rfl ?_
  refine P_goto (tgt := 4) d_309_51 rfl ?_
  exact hrec _ _ _ hW  hf
def f_Mo_odd_j40 (rec : Int32 → Int32 → AM → Option (Int32 × AM)) (v2 : Int32) (s0 : Int32) (M : AM) : Option (Int32 × AM) :=
  f_Mo_odd_j41 rec v2 s0 0 M
set_option maxRecDepth 20000 in
theorem t_Mo_odd_j40 {G : GT} {d : Nat} {v2 : Int32} {s0 : Int32} {M : AM} {Q : AM → Option Value → Prop} {yo : Int32} {Mo : AM} {rec : Int32 → Int32 → AM → Option (Int32 × AM)} (hrec : ∀ (v1 : Int32) (v2 : Int32) (M : AM), WT M → rec v1 v2 M = some (yo, Mo) → PW G (d + 2) 309 4 [.ref 105, .int v1, .int v2] [] M 0 0 Q) (k1 : WT Mo → PW G (d + 2) 309 54 [ux, .int yo, ux] [] Mo 0 0 Q) (hW : WT M)  (hf : f_Mo_odd_j40 rec v2 s0 M = some (yo, Mo)) : PW G (d + 2) 309 40 [.ref 105, ux, .int v2] [.int s0] M 0 0 Q := by
  refine A_iconst d_309_40 ic_0 ?_
  exact t_Mo_odd_j41 hrec k1 hW  hf
def f_Mo_odd_b4 (rec : Int32 → Int32 → AM → Option (Int32 × AM))  (v1 : Int32) (v2 : Int32) (M : AM) : Option (Int32 × AM) :=
  if (gI M 105 42) ≤ v2 then some (v1, M) else bnd (f_Mo_isTied v2 M) (fun r1 M2 => if r1 = 0 then ald 8 M2 121 v2 (fun x3 => bnd (f_Mo_members x3 M2) (fun r4 M5 => if (r4 % 2) = 1 then f_Mo_odd_j41 rec v2 v1 1 M5 else f_Mo_odd_j40 rec v2 v1 M5)) else f_Mo_odd_j40 rec v2 v1 M2)
def f_Mo_odd_l4  : Nat → Int32 → Int32 → AM → Option (Int32 × AM)
  | 0, _, _, _ => none
  | n + 1, v1, v2, M => f_Mo_odd_b4 (f_Mo_odd_l4  n)  v1 v2 M
set_option maxRecDepth 20000 in
theorem t_Mo_odd_b4 {G : GT} {d : Nat}  {v1 : Int32} {v2 : Int32} {M : AM} {Q : AM → Option Value → Prop} {yo : Int32} {Mo : AM} {rec : Int32 → Int32 → AM → Option (Int32 × AM)} (hrec : ∀ (v1 : Int32) (v2 : Int32) (M : AM), WT M → rec v1 v2 M = some (yo, Mo) → PW G (d + 2) 309 4 [.ref 105, .int v1, .int v2] [] M 0 0 Q) (k1 : WT Mo → PW G (d + 2) 309 54 [ux, .int yo, ux] [] Mo 0 0 Q) (hW : WT M)   (hf : f_Mo_odd_b4 rec  v1 v2 M = some (yo, Mo)) : PW G (d + 2) 309 4 [.ref 105, .int v1, .int v2] [] M 0 0 Q := by
  refine P_iload_n d_309_4 rfl ?_
  refine P_aload_n d_309_5 rfl ?_
  refine A_gI d_309_6 cn_309 fk_CordLoftModel_369 k_105 hW ?_
  refine A_icmp_ge (tgt := 54) d_309_9 rfl hf (fun hf => ?_) (fun hf => ?_)
  · refine P_fgt [false, true, false] ?_
    cases hf
    exact k1 hW 
  · refine P_iload_n d_309_12 rfl ?_
    refine P_aload_n d_309_13 rfl ?_
    refine P_iload_n d_309_14 rfl ?_
    refine A_V1 d_309_15 vk_309_408 ml_249 rfl k_105 hW rfl hf (fun r1 M2 hc hf => t_Mo_isTied hW  hc (fun hW hb2 => ?_))
    refine A_if_ne (tgt := 40) d_309_18 rfl hf (fun hf => ?_) (fun hf => ?_)
    · refine P_fgt [true, false, true] ?_
      exact t_Mo_odd_j40 hrec k1 hW  hf
    · refine P_aload_n d_309_21 rfl ?_
      refine A_gF d_309_22 cn_309 fk_CordLoftModel_60 ft_13_33 k_105 hW ?_
      refine P_iload_n d_309_25 rfl ?_
      refine A_iald d_309_26 k_121 l_121 hW hf (fun hf => ?_)
      refine A_S1 d_309_27 sk_309_290 ml_250 rfl rfl hf (fun r4 M5 hc hf => t_Mo_members hW  hc (fun hW => ?_))
      refine A_iconst d_309_30 ic_2 ?_
      refine P_irem d_309_31 nz_2 ?_
      refine A_iconst d_309_32 ic_1 ?_
      refine A_icmp_ne (tgt := 40) d_309_33 rfl hf (fun hf => ?_) (fun hf => ?_)
      · refine P_fgt [true, false, true] ?_
        exact t_Mo_odd_j40 hrec k1 hW  hf
      · refine A_iconst d_309_36 ic_1 ?_
        refine P_goto (tgt := 41) d_309_37 rfl ?_
        refine P_fgt [true, false, true] ?_
        exact t_Mo_odd_j41 hrec k1 hW  hf
theorem t_Mo_odd_l4 {G : GT} {d : Nat}  {Q : AM → Option Value → Prop} {yo : Int32} {Mo : AM} (k1 : WT Mo → PW G (d + 2) 309 54 [ux, .int yo, ux] [] Mo 0 0 Q)  : ∀ (z : Nat) (v1 : Int32) (v2 : Int32) (M : AM), WT M → f_Mo_odd_l4  z v1 v2 M = some (yo, Mo) → PW G (d + 2) 309 4 [.ref 105, .int v1, .int v2] [] M 0 0 Q := by
  intro z
  induction z with
  | zero => intro v1 v2 M hW hf; cases hf
  | succ z ih => intro v1 v2 M hW hf; exact t_Mo_odd_b4 (fun v1 v2 M hW hf => ih v1 v2 M hW hf) k1 hW   hf
def f_Mo_odd  (M : AM) : Option (Int32 × AM) :=
  bnd (f_Mo_odd_l4  fu 0 0 M) (fun y1 M2 => some (y1, M2))
set_option maxRecDepth 20000 in
theorem t_Mo_odd {G : GT} {d : Nat}  {M : AM} {Q : AM → Option Value → Prop} {r : Int32} {M' : AM} (hW : WT M)  (hf : f_Mo_odd  M = some (r, M')) (k : WT M' → Q M' (some (.int r)))  : Cal G (d + 2) 309 [.ref 105] M Q := by
  refine A_enter ml_309 rfl ?_
  refine A_iconst d_309_0 ic_0 ?_
  refine A_istore_n d_309_1 ml_309 rfl rfl ?_
  refine A_iconst d_309_2 ic_0 ?_
  refine A_istore_n d_309_3 ml_309 rfl rfl ?_
  obtain ⟨y1, M2, hl, hf⟩ := bnd_some hf
  refine t_Mo_odd_l4 (fun hW => ?_)  fu _ _ _ hW  hl
  refine P_iload_n d_309_54 rfl ?_
  exact A_iret d_309_55 mr_309 hW hf k
def f_Mo_law_j57 (rec : Int32 → Int32 → AM → Option (Int32 × AM)) (v1 : Int32) (v3 : Int32) (s0 : Int32) (M : AM) : Option (Int32 × AM) :=
  rec (s0 ^^^ 0) (v3 + 1) M
set_option maxRecDepth 20000 in
theorem t_Mo_law_j57 {G : GT} {d : Nat} {v1 : Int32} {v3 : Int32} {s0 : Int32} {M : AM} {Q : AM → Option Value → Prop} {yo : Int32} {Mo : AM} {rec : Int32 → Int32 → AM → Option (Int32 × AM)} (hrec : ∀ (v2 : Int32) (v3 : Int32) (M : AM), WT M → rec v2 v3 M = some (yo, Mo) → PW G (d + 2) 310 21 [.ref 105, .int v1, .int v2, .int v3] [] M 0 0 Q) (k1 : WT Mo → PW G (d + 2) 310 66 [ux, ux, .int yo, ux] [] Mo 0 0 Q) (hW : WT M)  (hf : f_Mo_law_j57 rec v1 v3 s0 M = some (yo, Mo)) : PW G (d + 2) 310 57 [.ref 105, .int v1, ux, .int v3] [.int s0] M 0 0 Q := by
  refine A_iconst d_310_57 ic_0 ?_
  refine P_ixor d_310_58 ?_
  refine A_istore_n d_310_59 ml_310 rfl rfl ?_
  refine A_iinc d_310_60 ic_1 rfl ml_310 rfl rfl ?_
  refine P_goto (tgt := 21) d_310_63 rfl ?_
  exact hrec _ _ _ hW  hf
def f_Mo_law_b21 (rec : Int32 → Int32 → AM → Option (Int32 × AM)) (v1 : Int32) (v2 : Int32) (v3 : Int32) (M : AM) : Option (Int32 × AM) :=
  if (gI M 105 42) ≤ v3 then some (v2, M) else bnd (f_Mo_isTied v3 M) (fun r1 M2 => if r1 = 0 then ald 8 M2 122 v3 (fun x3 => if v1 < x3 then f_Mo_law_j57 rec v1 v3 v2 M2 else ald 8 M2 121 v3 (fun x4 => rec (v2 ^^^ x4) (v3 + 1) M2)) else f_Mo_law_j57 rec v1 v3 v2 M2)
def f_Mo_law_l21 (v1 : Int32) : Nat → Int32 → Int32 → AM → Option (Int32 × AM)
  | 0, _, _, _ => none
  | n + 1, v2, v3, M => f_Mo_law_b21 (f_Mo_law_l21 v1 n) v1 v2 v3 M
set_option maxRecDepth 20000 in
theorem t_Mo_law_b21 {G : GT} {d : Nat} {v1 : Int32} {v2 : Int32} {v3 : Int32} {M : AM} {Q : AM → Option Value → Prop} {yo : Int32} {Mo : AM} {rec : Int32 → Int32 → AM → Option (Int32 × AM)} (hrec : ∀ (v2 : Int32) (v3 : Int32) (M : AM), WT M → rec v2 v3 M = some (yo, Mo) → PW G (d + 2) 310 21 [.ref 105, .int v1, .int v2, .int v3] [] M 0 0 Q) (k1 : WT Mo → PW G (d + 2) 310 66 [ux, ux, .int yo, ux] [] Mo 0 0 Q) (hW : WT M)   (hf : f_Mo_law_b21 rec v1 v2 v3 M = some (yo, Mo)) : PW G (d + 2) 310 21 [.ref 105, .int v1, .int v2, .int v3] [] M 0 0 Q := by
  refine P_iload_n d_310_21 rfl ?_
  refine P_aload_n d_310_22 rfl ?_
  refine A_gI d_310_23 cn_310 fk_CordLoftModel_369 k_105 hW ?_
  refine A_icmp_ge (tgt := 66) d_310_26 rfl hf (fun hf => ?_) (fun hf => ?_)
  · refine P_fgt [false, false, true, false] ?_
    cases hf
    exact k1 hW 
  · refine P_iload_n d_310_29 rfl ?_
    refine P_aload_n d_310_30 rfl ?_
    refine P_iload_n d_310_31 rfl ?_
    refine A_V1 d_310_32 vk_310_408 ml_249 rfl k_105 hW rfl hf (fun r1 M2 hc hf => t_Mo_isTied hW  hc (fun hW hb2 => ?_))
    refine A_if_ne (tgt := 57) d_310_35 rfl hf (fun hf => ?_) (fun hf => ?_)
    · refine P_fgt [true, true, false, true] ?_
      exact t_Mo_law_j57 hrec k1 hW  hf
    · refine P_aload_n d_310_38 rfl ?_
      refine A_gF d_310_39 cn_310 fk_CordLoftModel_63 ft_13_34 k_105 hW ?_
      refine P_iload_n d_310_42 rfl ?_
      refine A_iald d_310_43 k_122 l_122 hW hf (fun hf => ?_)
      refine P_iload_n d_310_44 rfl ?_
      refine A_icmp_gt (tgt := 57) d_310_45 rfl hf (fun hf => ?_) (fun hf => ?_)
      · refine P_fgt [true, true, false, true] ?_
        exact t_Mo_law_j57 hrec k1 hW  hf
      · refine P_aload_n d_310_48 rfl ?_
        refine A_gF d_310_49 cn_310 fk_CordLoftModel_60 ft_13_33 k_105 hW ?_
        refine P_iload_n d_310_52 rfl ?_
        refine A_iald d_310_53 k_121 l_121 hW hf (fun hf => ?_)
        refine P_goto (tgt := 58) d_310_54 rfl ?_
        refine P_ixor d_310_58 ?_
        refine A_istore_n d_310_59 ml_310 rfl rfl ?_
        refine A_iinc d_310_60 ic_1 rfl ml_310 rfl rfl ?_
        refine P_goto (tgt := 21) d_310_63 rfl ?_
        exact hrec _ _ _ hW  hf
theorem t_Mo_law_l21 {G : GT} {d : Nat} {v1 : Int32} {Q : AM → Option Value → Prop} {yo : Int32} {Mo : AM} (k1 : WT Mo → PW G (d + 2) 310 66 [ux, ux, .int yo, ux] [] Mo 0 0 Q)  : ∀ (z : Nat) (v2 : Int32) (v3 : Int32) (M : AM), WT M → f_Mo_law_l21 v1 z v2 v3 M = some (yo, Mo) → PW G (d + 2) 310 21 [.ref 105, .int v1, .int v2, .int v3] [] M 0 0 Q := by
  intro z
  induction z with
  | zero => intro v2 v3 M hW hf; cases hf
  | succ z ih => intro v2 v3 M hW hf; exact t_Mo_law_b21 (fun v2 v3 M hW hf => ih v2 v3 M hW hf) k1 hW   hf
def f_Mo_law (a1 : Int32) (M : AM) : Option (Int32 × AM) :=
  bnd (f_Mo_isIn a1 0 20 M) (fun r1 M2 => if r1 = 0 then some ((-1), M2) else ald 5 M2 123 0 (fun x3 => bnd (f_Mo_law_l21 a1 fu x3 0 M2) (fun y4 M5 => bnd (f_Mo_members y4 M5) (fun r6 M7 => some (r6, M7)))))
set_option maxRecDepth 20000 in
theorem t_Mo_law {G : GT} {d : Nat} {a1 : Int32} {M : AM} {Q : AM → Option Value → Prop} {r : Int32} {M' : AM} (hW : WT M)  (hf : f_Mo_law a1 M = some (r, M')) (k : WT M' → Q M' (some (.int r)))  : Cal G (d + 2) 310 [.ref 105, .int a1] M Q := by
  refine A_enter ml_310 rfl ?_
  refine P_iload_n d_310_0 rfl ?_
  refine A_iconst d_310_1 ic_0 ?_
  refine P_bipush d_310_2 bi_20 ?_
  refine A_S3 d_310_4 sk_310_399 ml_243 rfl rfl hf (fun r1 M2 hc hf => t_Mo_isIn hW  hc (fun hW hb2 => ?_))
  refine A_if_ne (tgt := 12) d_310_7 rfl hf (fun hf => ?_) (fun hf => ?_)
  · refine P_aload_n d_310_12 rfl ?_
    refine A_gF d_310_13 cn_310 fk_CordLoftModel_66 ft_13_50 k_105 hW ?_
    refine A_iconst d_310_16 ic_0 ?_
    refine A_iald d_310_17 k_123 l_123 hW hf (fun hf => ?_)
    refine A_istore_n d_310_18 ml_310 rfl rfl ?_
    refine A_iconst d_310_19 ic_0 ?_
    refine A_istore_n d_310_20 ml_310 rfl rfl ?_
    obtain ⟨y4, M5, hl, hf⟩ := bnd_some hf
    refine t_Mo_law_l21 (fun hW => ?_)  fu _ _ _ hW  hl
    refine P_iload_n d_310_66 rfl ?_
    refine A_S1 d_310_67 sk_310_290 ml_250 rfl rfl hf (fun r6 M7 hc hf => t_Mo_members hW  hc (fun hW => ?_))
    exact A_iret d_310_70 mr_310 hW hf k
  · refine A_iconst d_310_10 ic_m1 ?_
    exact A_iret d_310_11 mr_310 hW hf k
def f_Mo_power_b4 (rec : Int32 → Int32 → AM → Option (Int32 × AM)) (v0 : Int32) (v1 : Int32) (v2 : Int32) (v3 : Int32) (M : AM) : Option (Int32 × AM) :=
  if v1 ≤ v3 then some (v2, M) else rec (v2 * v0) (v3 + 1) M
def f_Mo_power_l4 (v0 : Int32) (v1 : Int32) : Nat → Int32 → Int32 → AM → Option (Int32 × AM)
  | 0, _, _, _ => none
  | n + 1, v2, v3, M => f_Mo_power_b4 (f_Mo_power_l4 v0 v1 n) v0 v1 v2 v3 M
set_option maxRecDepth 20000 in
theorem t_Mo_power_b4 {G : GT} {d : Nat} {v0 : Int32} {v1 : Int32} {v2 : Int32} {v3 : Int32} {M : AM} {Q : AM → Option Value → Prop} {yo : Int32} {Mo : AM} {rec : Int32 → Int32 → AM → Option (Int32 × AM)} (hrec : ∀ (v2 : Int32) (v3 : Int32) (M : AM), WT M → rec v2 v3 M = some (yo, Mo) → PW G d 312 4 [.int v0, .int v1, .int v2, .int v3] [] M 0 0 Q) (k1 : WT Mo → PW G d 312 19 [ux, ux, .int yo, ux] [] Mo 0 0 Q) (hW : WT M)   (hf : f_Mo_power_b4 rec v0 v1 v2 v3 M = some (yo, Mo)) : PW G d 312 4 [.int v0, .int v1, .int v2, .int v3] [] M 0 0 Q := by
  refine P_iload_n d_312_4 rfl ?_
  refine P_iload_n d_312_5 rfl ?_
  refine A_icmp_ge (tgt := 19) d_312_6 rfl hf (fun hf => ?_) (fun hf => ?_)
  · refine P_fgt [false, false, true, false] ?_
    cases hf
    exact k1 hW 
  · refine P_iload_n d_312_9 rfl ?_
    refine P_iload_n d_312_10 rfl ?_
    refine P_imul d_312_11 ?_
    refine A_istore_n d_312_12 ml_312 rfl rfl ?_
    refine A_iinc d_312_13 ic_1 rfl ml_312 rfl rfl ?_
    refine P_goto (tgt := 4) d_312_16 rfl ?_
    exact hrec _ _ _ hW  hf
theorem t_Mo_power_l4 {G : GT} {d : Nat} {v0 : Int32} {v1 : Int32} {Q : AM → Option Value → Prop} {yo : Int32} {Mo : AM} (k1 : WT Mo → PW G d 312 19 [ux, ux, .int yo, ux] [] Mo 0 0 Q)  : ∀ (z : Nat) (v2 : Int32) (v3 : Int32) (M : AM), WT M → f_Mo_power_l4 v0 v1 z v2 v3 M = some (yo, Mo) → PW G d 312 4 [.int v0, .int v1, .int v2, .int v3] [] M 0 0 Q := by
  intro z
  induction z with
  | zero => intro v2 v3 M hW hf; cases hf
  | succ z ih => intro v2 v3 M hW hf; exact t_Mo_power_b4 (fun v2 v3 M hW hf => ih v2 v3 M hW hf) k1 hW   hf
def f_Mo_power (a0 : Int32) (a1 : Int32) (M : AM) : Option (Int32 × AM) :=
  bnd (f_Mo_power_l4 a0 a1 fu 1 0 M) (fun y1 M2 => some (y1, M2))
set_option maxRecDepth 20000 in
theorem t_Mo_power {G : GT} {d : Nat} {a0 : Int32} {a1 : Int32} {M : AM} {Q : AM → Option Value → Prop} {r : Int32} {M' : AM} (hW : WT M)  (hf : f_Mo_power a0 a1 M = some (r, M')) (k : WT M' → Q M' (some (.int r)))  : Cal G d 312 [.int a0, .int a1] M Q := by
  refine A_enter ml_312 rfl ?_
  refine A_iconst d_312_0 ic_1 ?_
  refine A_istore_n d_312_1 ml_312 rfl rfl ?_
  refine A_iconst d_312_2 ic_0 ?_
  refine A_istore_n d_312_3 ml_312 rfl rfl ?_
  obtain ⟨y1, M2, hl, hf⟩ := bnd_some hf
  refine t_Mo_power_l4 (fun hW => ?_)  fu _ _ _ hW  hl
  refine P_iload_n d_312_19 rfl ?_
  exact A_iret d_312_20 mr_312 hW hf k
def f_Mo_divisor_b4 (rec : Int32 → Int32 → AM → Option (Int32 × AM))  (v2 : Int32) (v3 : Int32) (M : AM) : Option (Int32 × AM) :=
  if v3 ≤ 0 then some (v2, M) else dvz v3 (rec v3 (v2 % v3) M)
def f_Mo_divisor_l4  : Nat → Int32 → Int32 → AM → Option (Int32 × AM)
  | 0, _, _, _ => none
  | n + 1, v2, v3, M => f_Mo_divisor_b4 (f_Mo_divisor_l4  n)  v2 v3 M
set_option maxRecDepth 20000 in
theorem t_Mo_divisor_b4 {G : GT} {d : Nat}  {v2 : Int32} {v3 : Int32} {M : AM} {Q : AM → Option Value → Prop} {yo : Int32} {Mo : AM} {rec : Int32 → Int32 → AM → Option (Int32 × AM)} (hrec : ∀ (v2 : Int32) (v3 : Int32) (M : AM), WT M → rec v2 v3 M = some (yo, Mo) → PW G d 313 4 [ux, ux, .int v2, .int v3, ux] [] M 0 0 Q) (k1 : WT Mo → PW G d 313 21 [ux, ux, .int yo, ux, ux] [] Mo 0 0 Q) (hW : WT M)   (hf : f_Mo_divisor_b4 rec  v2 v3 M = some (yo, Mo)) : PW G d 313 4 [ux, ux, .int v2, .int v3, ux] [] M 0 0 Q := by
  refine P_iload_n d_313_4 rfl ?_
  refine A_if_le (tgt := 21) d_313_5 rfl hf (fun hf => ?_) (fun hf => ?_)
  · refine P_fgt [false, false, true, false, false] ?_
    cases hf
    exact k1 hW 
  · refine P_iload_n d_313_8 rfl ?_
    refine P_iload_n d_313_9 rfl ?_
    refine A_irem d_313_10 hf (fun hf => ?_)
    refine A_istore d_313_11 ml_313 rfl rfl ?_
    refine P_iload_n d_313_13 rfl ?_
    refine A_istore_n d_313_14 ml_313 rfl rfl ?_
    refine P_iload d_313_15 rfl ?_
    refine A_istore_n d_313_17 ml_313 rfl rfl ?_
    refine P_goto (tgt := 4) d_313_18 rfl ?_
    refine P_fgt [false, false, true, true, false] ?_
    exact hrec _ _ _ hW  hf
theorem t_Mo_divisor_l4 {G : GT} {d : Nat}  {Q : AM → Option Value → Prop} {yo : Int32} {Mo : AM} (k1 : WT Mo → PW G d 313 21 [ux, ux, .int yo, ux, ux] [] Mo 0 0 Q)  : ∀ (z : Nat) (v2 : Int32) (v3 : Int32) (M : AM), WT M → f_Mo_divisor_l4  z v2 v3 M = some (yo, Mo) → PW G d 313 4 [ux, ux, .int v2, .int v3, ux] [] M 0 0 Q := by
  intro z
  induction z with
  | zero => intro v2 v3 M hW hf; cases hf
  | succ z ih => intro v2 v3 M hW hf; exact t_Mo_divisor_b4 (fun v2 v3 M hW hf => ih v2 v3 M hW hf) k1 hW   hf
def f_Mo_divisor (a0 : Int32) (a1 : Int32) (M : AM) : Option (Int32 × AM) :=
  bnd (f_Mo_divisor_l4  fu a0 a1 M) (fun y1 M2 => some (y1, M2))
set_option maxRecDepth 20000 in
theorem t_Mo_divisor {G : GT} {d : Nat} {a0 : Int32} {a1 : Int32} {M : AM} {Q : AM → Option Value → Prop} {r : Int32} {M' : AM} (hW : WT M)  (hf : f_Mo_divisor a0 a1 M = some (r, M')) (k : WT M' → Q M' (some (.int r)))  : Cal G d 313 [.int a0, .int a1] M Q := by
  refine A_enter ml_313 rfl ?_
  refine P_iload_n d_313_0 rfl ?_
  refine A_istore_n d_313_1 ml_313 rfl rfl ?_
  refine P_iload_n d_313_2 rfl ?_
  refine A_istore_n d_313_3 ml_313 rfl rfl ?_
  obtain ⟨y1, M2, hl, hf⟩ := bnd_some hf
  refine P_fgt [false, false, true, true, false] ?_
  refine t_Mo_divisor_l4 (fun hW => ?_)  fu _ _ _ hW  hl
  refine P_iload_n d_313_21 rfl ?_
  exact A_iret d_313_22 mr_313 hW hf k
def f_Mo_odds (a1 : Int32) (a2 : Int32) (M : AM) : Option (Int32 × AM) :=
  bnd (f_Mo_isIn a1 0 4 M) (fun r1 M2 => if r1 = 0 then some ((-1), M2) else bnd (f_Mo_isIn a2 0 1 M2) (fun r3 M4 => if r3 = 0 then some ((-1), M4) else bnd (f_Mo_power (100 - (gI M4 105 45)) a1 M4) (fun r5 M6 => bnd (f_Mo_power 100 a1 M6) (fun r7 M8 => bnd (f_Mo_divisor r7 r5 M8) (fun r9 M10 => if a2 = 0 then dvz r9 (some (r5 / r9, M10)) else dvz r9 (some (r7 / r9, M10)))))))
set_option maxRecDepth 20000 in
theorem t_Mo_odds {G : GT} {d : Nat} {a1 : Int32} {a2 : Int32} {M : AM} {Q : AM → Option Value → Prop} {r : Int32} {M' : AM} (hW : WT M)  (hf : f_Mo_odds a1 a2 M = some (r, M')) (k : WT M' → Q M' (some (.int r)))  : Cal G (d + 1) 311 [.ref 105, .int a1, .int a2] M Q := by
  refine A_enter ml_311 rfl ?_
  refine P_iload_n d_311_0 rfl ?_
  refine A_iconst d_311_1 ic_0 ?_
  refine A_iconst d_311_2 ic_4 ?_
  refine A_S3 d_311_3 sk_311_399 ml_243 rfl rfl hf (fun r1 M2 hc hf => t_Mo_isIn hW  hc (fun hW hb2 => ?_))
  refine A_if_eq (tgt := 18) d_311_6 rfl hf (fun hf => ?_) (fun hf => ?_)
  · refine A_iconst d_311_18 ic_m1 ?_
    exact A_iret d_311_19 mr_311 hW hf k
  · refine P_iload_n d_311_9 rfl ?_
    refine A_iconst d_311_10 ic_0 ?_
    refine A_iconst d_311_11 ic_1 ?_
    refine A_S3 d_311_12 sk_311_399 ml_243 rfl rfl hf (fun r3 M4 hc hf => t_Mo_isIn hW  hc (fun hW hb4 => ?_))
    refine A_if_ne (tgt := 20) d_311_15 rfl hf (fun hf => ?_) (fun hf => ?_)
    · refine P_bipush d_311_20 bi_100 ?_
      refine P_aload_n d_311_22 rfl ?_
      refine A_gI d_311_23 cn_311 fk_CordLoftModel_378 k_105 hW ?_
      refine P_isub d_311_26 ?_
      refine P_iload_n d_311_27 rfl ?_
      refine A_S2 d_311_28 sk_311_479 ml_312 rfl rfl hf (fun r5 M6 hc hf => t_Mo_power hW  hc (fun hW => ?_))
      refine A_istore_n d_311_31 ml_311 rfl rfl ?_
      refine P_bipush d_311_32 bi_100 ?_
      refine P_iload_n d_311_34 rfl ?_
      refine A_S2 d_311_35 sk_311_479 ml_312 rfl rfl hf (fun r7 M8 hc hf => t_Mo_power hW  hc (fun hW => ?_))
      refine A_istore d_311_38 ml_311 rfl rfl ?_
      refine P_iload d_311_40 rfl ?_
      refine P_iload_n d_311_42 rfl ?_
      refine A_S2 d_311_43 sk_311_482 ml_313 rfl rfl hf (fun r9 M10 hc hf => t_Mo_divisor hW  hc (fun hW => ?_))
      refine A_istore d_311_46 ml_311 rfl rfl ?_
      refine P_iload_n d_311_48 rfl ?_
      refine A_if_ne (tgt := 59) d_311_49 rfl hf (fun hf => ?_) (fun hf => ?_)
      · refine P_iload d_311_59 rfl ?_
        refine P_iload d_311_61 rfl ?_
        refine A_idiv d_311_63 hf (fun hf => ?_)
        exact A_iret d_311_64 mr_311 hW hf k
      · refine P_iload_n d_311_52 rfl ?_
        refine P_iload d_311_53 rfl ?_
        refine A_idiv d_311_55 hf (fun hf => ?_)
        refine P_goto (tgt := 64) d_311_56 rfl ?_
        exact A_iret d_311_64 mr_311 hW hf k
    · refine A_iconst d_311_18 ic_m1 ?_
      exact A_iret d_311_19 mr_311 hW hf k
def f_Mo_lies (a1 : Int32) (M : AM) : Option (Int32 × AM) :=
  bnd (f_Mo_isIn a1 0 ((gI M 105 59) - 1) M) (fun r1 M2 => if r1 = 0 then some ((-1), M2) else ald 256 M2 126 a1 (fun x3 => some (x3, M2)))
set_option maxRecDepth 20000 in
theorem t_Mo_lies {G : GT} {d : Nat} {a1 : Int32} {M : AM} {Q : AM → Option Value → Prop} {r : Int32} {M' : AM} (hW : WT M)  (hf : f_Mo_lies a1 M = some (r, M')) (k : WT M' → Q M' (some (.int r)))  : Cal G (d + 1) 314 [.ref 105, .int a1] M Q := by
  refine A_enter ml_314 rfl ?_
  refine P_iload_n d_314_0 rfl ?_
  refine A_iconst d_314_1 ic_0 ?_
  refine P_aload_n d_314_2 rfl ?_
  refine A_gI d_314_3 cn_314 fk_CordLoftModel_396 k_105 hW ?_
  refine A_iconst d_314_6 ic_1 ?_
  refine P_isub d_314_7 ?_
  refine A_S3 d_314_8 sk_314_399 ml_243 rfl rfl hf (fun r1 M2 hc hf => t_Mo_isIn hW  hc (fun hW hb2 => ?_))
  refine A_if_eq (tgt := 23) d_314_11 rfl hf (fun hf => ?_) (fun hf => ?_)
  · refine A_iconst d_314_23 ic_m1 ?_
    exact A_iret d_314_24 mr_314 hW hf k
  · refine P_aload_n d_314_14 rfl ?_
    refine A_gF d_314_15 cn_314 fk_CordLoftModel_76 ft_13_56 k_105 hW ?_
    refine P_iload_n d_314_18 rfl ?_
    refine A_iald d_314_19 k_126 l_126 hW hf (fun hf => ?_)
    refine P_goto (tgt := 24) d_314_20 rfl ?_
    exact A_iret d_314_24 mr_314 hW hf k
def f_Mo_seen (a1 : Int32) (a2 : Int32) (M : AM) : Option (Int32 × AM) :=
  bnd (f_Mo_isLamp a1 M) (fun r1 M2 => if r1 = 0 then some ((-1), M2) else if (gI M2 105 67) = 30 then some ((-1), M2) else ast 30 M2 132 (gI M2 105 67) a1 (fun M3 => ckB a2 (ast 30 M3 135 (gI M3 105 67) a2 (fun M4 => ast 30 M4 133 (gI M4 105 67) (gI M4 105 68) (fun M6 => ast 30 M6 134 (gI M6 105 67) (-1) (fun M7 => wI M7 105 67 ((gI M7 105 67) + 1) (fun M8 => some ((gI M8 105 67) - 1, M8))))))))
set_option maxRecDepth 20000 in
theorem t_Mo_seen {G : GT} {d : Nat} {a1 : Int32} {a2 : Int32} {M : AM} {Q : AM → Option Value → Prop} {r : Int32} {M' : AM} (hW : WT M)  (hf : f_Mo_seen a1 a2 M = some (r, M')) (k : WT M' → Q M' (some (.int r)))  : Cal G (d + 2) 315 [.ref 105, .int a1, .int a2] M Q := by
  refine A_enter ml_315 rfl ?_
  refine P_aload_n d_315_0 rfl ?_
  refine P_iload_n d_315_1 rfl ?_
  refine A_V1 d_315_2 vk_315_402 ml_242 rfl k_105 hW rfl hf (fun r1 M2 hc hf => t_Mo_isLamp hW  hc (fun hW hb2 => ?_))
  refine A_if_eq (tgt := 17) d_315_5 rfl hf (fun hf => ?_) (fun hf => ?_)
  · refine A_iconst d_315_17 ic_m1 ?_
    exact A_iret d_315_18 mr_315 hW hf k
  · refine P_aload_n d_315_8 rfl ?_
    refine A_gI d_315_9 cn_315 fk_CordLoftModel_393 k_105 hW ?_
    refine P_bipush d_315_12 bi_30 ?_
    refine A_icmp_ne (tgt := 19) d_315_14 rfl hf (fun hf => ?_) (fun hf => ?_)
    · refine P_aload_n d_315_19 rfl ?_
      refine A_gF d_315_20 cn_315 fk_CordLoftModel_94 ft_13_63 k_105 hW ?_
      refine P_aload_n d_315_23 rfl ?_
      refine A_gI d_315_24 cn_315 fk_CordLoftModel_393 k_105 hW ?_
      refine P_iload_n d_315_27 rfl ?_
      refine A_iast d_315_28 k_132 l_132 hW hf (fun hW hf => ?_)
      refine P_aload_n d_315_29 rfl ?_
      refine A_gF d_315_30 cn_315 fk_CordLoftModel_103 ft_13_66 k_105 hW ?_
      refine P_aload_n d_315_33 rfl ?_
      refine A_gI d_315_34 cn_315 fk_CordLoftModel_393 k_105 hW ?_
      refine P_iload_n d_315_37 rfl ?_
      refine A_ckB hf (fun hb5 hf => ?_)
      refine A_zast d_315_38 k_135 l_135 hW hb5 hf (fun hW hf => ?_)
      refine P_aload_n d_315_39 rfl ?_
      refine A_gF d_315_40 cn_315 fk_CordLoftModel_97 ft_13_64 k_105 hW ?_
      refine P_aload_n d_315_43 rfl ?_
      refine A_gI d_315_44 cn_315 fk_CordLoftModel_393 k_105 hW ?_
      refine P_aload_n d_315_47 rfl ?_
      refine A_gI d_315_48 cn_315 fk_CordLoftModel_485 k_105 hW ?_
      refine A_iast d_315_51 k_133 l_133 hW hf (fun hW hf => ?_)
      refine P_aload_n d_315_52 rfl ?_
      refine A_gF d_315_53 cn_315 fk_CordLoftModel_100 ft_13_65 k_105 hW ?_
      refine P_aload_n d_315_56 rfl ?_
      refine A_gI d_315_57 cn_315 fk_CordLoftModel_393 k_105 hW ?_
      refine A_iconst d_315_60 ic_m1 ?_
      refine A_iast d_315_61 k_134 l_134 hW hf (fun hW hf => ?_)
      refine P_aload_n d_315_62 rfl ?_
      refine P_dup d_315_63 rfl ?_
      refine A_gI d_315_64 cn_315 fk_CordLoftModel_393 k_105 hW ?_
      refine A_iconst d_315_67 ic_1 ?_
      refine P_iadd d_315_68 ?_
      refine A_pI d_315_69 cn_315 fp_CordLoftModel_393 k_105 hW hf (fun hW hf => ?_)
      refine P_aload_n d_315_72 rfl ?_
      refine A_gI d_315_73 cn_315 fk_CordLoftModel_393 k_105 hW ?_
      refine A_iconst d_315_76 ic_1 ?_
      refine P_isub d_315_77 ?_
      exact A_iret d_315_78 mr_315 hW hf k
    · refine A_iconst d_315_17 ic_m1 ?_
      exact A_iret d_315_18 mr_315 hW hf k
def f_Mo_untell (a1 : Int32) (M : AM) : Option (Int32 × AM) :=
  bnd (f_Mo_isIn a1 0 ((gI M 105 67) - 1) M) (fun r1 M2 => if r1 = 0 then some (0, M2) else ald 30 M2 134 a1 (fun x3 => if x3 < 0 then ast 30 M2 134 a1 (gI M2 105 68) (fun M4 => some (1, M4)) else some (0, M2)))
set_option maxRecDepth 20000 in
theorem t_Mo_untell {G : GT} {d : Nat} {a1 : Int32} {M : AM} {Q : AM → Option Value → Prop} {r : Int32} {M' : AM} (hW : WT M)  (hf : f_Mo_untell a1 M = some (r, M')) (k : WT M' → (r = 0 ∨ r = 1) → Q M' (some (.int r)))  : Cal G (d + 1) 316 [.ref 105, .int a1] M Q := by
  refine A_enter ml_316 rfl ?_
  refine P_iload_n d_316_0 rfl ?_
  refine A_iconst d_316_1 ic_0 ?_
  refine P_aload_n d_316_2 rfl ?_
  refine A_gI d_316_3 cn_316 fk_CordLoftModel_393 k_105 hW ?_
  refine A_iconst d_316_6 ic_1 ?_
  refine P_isub d_316_7 ?_
  refine A_S3 d_316_8 sk_316_399 ml_243 rfl rfl hf (fun r1 M2 hc hf => t_Mo_isIn hW  hc (fun hW hb2 => ?_))
  refine A_if_eq (tgt := 23) d_316_11 rfl hf (fun hf => ?_) (fun hf => ?_)
  · refine A_iconst d_316_23 ic_0 ?_
    exact A_zret d_316_24 mr_316 hW (Or.inl rfl) hf k
  · refine P_aload_n d_316_14 rfl ?_
    refine A_gF d_316_15 cn_316 fk_CordLoftModel_100 ft_13_65 k_105 hW ?_
    refine P_iload_n d_316_18 rfl ?_
    refine A_iald d_316_19 k_134 l_134 hW hf (fun hf => ?_)
    refine A_if_lt (tgt := 25) d_316_20 rfl hf (fun hf => ?_) (fun hf => ?_)
    · refine P_aload_n d_316_25 rfl ?_
      refine A_gF d_316_26 cn_316 fk_CordLoftModel_100 ft_13_65 k_105 hW ?_
      refine P_iload_n d_316_29 rfl ?_
      refine P_aload_n d_316_30 rfl ?_
      refine A_gI d_316_31 cn_316 fk_CordLoftModel_485 k_105 hW ?_
      refine A_iast d_316_34 k_134 l_134 hW hf (fun hW hf => ?_)
      refine A_iconst d_316_35 ic_1 ?_
      exact A_zret d_316_36 mr_316 hW (Or.inr rfl) hf k
    · refine A_iconst d_316_23 ic_0 ?_
      exact A_zret d_316_24 mr_316 hW (Or.inl rfl) hf k
def f_Mo_later (a1 : Int32) (M : AM) : Option (Int32 × AM) :=
  if a1 < 0 then some ((-1), M) else if 1000 < a1 then some ((-1), M) else if ((gI M 105 68) + a1) ≤ 100000 then wI M 105 68 ((gI M 105 68) + a1) (fun M1 => some (gI M1 105 68, M1)) else some ((-1), M)
set_option maxRecDepth 20000 in
theorem t_Mo_later {G : GT} {d : Nat} {a1 : Int32} {M : AM} {Q : AM → Option Value → Prop} {r : Int32} {M' : AM} (hW : WT M)  (hf : f_Mo_later a1 M = some (r, M')) (k : WT M' → Q M' (some (.int r)))  : Cal G d 317 [.ref 105, .int a1] M Q := by
  refine A_enter ml_317 rfl ?_
  refine P_iload_n d_317_0 rfl ?_
  refine A_if_lt (tgt := 23) d_317_1 rfl hf (fun hf => ?_) (fun hf => ?_)
  · refine A_iconst d_317_23 ic_m1 ?_
    exact A_iret d_317_24 mr_317 hW hf k
  · refine P_iload_n d_317_4 rfl ?_
    refine P_sipush d_317_5 si_1000 ?_
    refine A_icmp_gt (tgt := 23) d_317_8 rfl hf (fun hf => ?_) (fun hf => ?_)
    · refine A_iconst d_317_23 ic_m1 ?_
      exact A_iret d_317_24 mr_317 hW hf k
    · refine P_aload_n d_317_11 rfl ?_
      refine A_gI d_317_12 cn_317 fk_CordLoftModel_485 k_105 hW ?_
      refine P_iload_n d_317_15 rfl ?_
      refine P_iadd d_317_16 ?_
      refine A_ldcw d_317_17 cn_317 cw_CordLoftModel_488 ?_
      refine A_icmp_le (tgt := 25) d_317_20 rfl hf (fun hf => ?_) (fun hf => ?_)
      · refine P_aload_n d_317_25 rfl ?_
        refine P_dup d_317_26 rfl ?_
        refine A_gI d_317_27 cn_317 fk_CordLoftModel_485 k_105 hW ?_
        refine P_iload_n d_317_30 rfl ?_
        refine P_iadd d_317_31 ?_
        refine A_pI d_317_32 cn_317 fp_CordLoftModel_485 k_105 hW hf (fun hW hf => ?_)
        refine P_aload_n d_317_35 rfl ?_
        refine A_gI d_317_36 cn_317 fk_CordLoftModel_485 k_105 hW ?_
        exact A_iret d_317_39 mr_317 hW hf k
      · refine A_iconst d_317_23 ic_m1 ?_
        exact A_iret d_317_24 mr_317 hW hf k
def f_Mo_fitsSet_j66 (rec : Int32 → Int32 → AM → Option (Int32 × AM)) (v2 : Int32) (v3 : Int32) (v5 : Int32) (M : AM) : Option (Int32 × AM) :=
  ald 30 M 132 v5 (fun x1 => bnd (f_Mo_has v3 x1 M) (fun r2 M3 => ald 30 M3 135 v5 (fun x4 => if r2 = x4 then rec 1 (v5 + 1) M3 else rec 0 (v5 + 1) M3)))
set_option maxRecDepth 20000 in
theorem t_Mo_fitsSet_j66 {G : GT} {d : Nat} {v2 : Int32} {v3 : Int32} {v5 : Int32} {M : AM} {Q : AM → Option Value → Prop} {yo : Int32} {Mo : AM} {rec : Int32 → Int32 → AM → Option (Int32 × AM)} (hrec : ∀ (v4 : Int32) (v5 : Int32) (M : AM), WT M → rec v4 v5 M = some (yo, Mo) → PW G (d + 2) 319 17 [.ref 105, ux, .int v2, .int v3, .int v4, .int v5] [] M 0 0 Q) (k1 : WT Mo → PW G (d + 2) 319 100 [ux, ux, ux, ux, .int yo, ux] [] Mo 0 0 Q) (hW : WT M)  (hf : f_Mo_fitsSet_j66 rec v2 v3 v5 M = some (yo, Mo)) : PW G (d + 2) 319 66 [.ref 105, ux, .int v2, .int v3, ux, .int v5] [] M 0 0 Q := by
  refine P_iload_n d_319_66 rfl ?_
  refine P_aload_n d_319_67 rfl ?_
  refine A_gF d_319_68 cn_319 fk_CordLoftModel_94 ft_13_63 k_105 hW ?_
  refine P_iload d_319_71 rfl ?_
  refine A_iald d_319_73 k_132 l_132 hW hf (fun hf => ?_)
  refine A_S2 d_319_74 sk_319_326 ml_225 rfl rfl hf (fun r2 M3 hc hf => t_Mo_has hW  hc (fun hW hb3 => ?_))
  refine P_aload_n d_319_77 rfl ?_
  refine A_gF d_319_78 cn_319 fk_CordLoftModel_103 ft_13_66 k_105 hW ?_
  refine P_iload d_319_81 rfl ?_
  refine A_zald d_319_83 k_135 l_135 hW hf (fun hf => ?_)
  refine A_icmp_ne (tgt := 91) d_319_84 rfl hf (fun hf => ?_) (fun hf => ?_)
  · refine A_iconst d_319_91 ic_0 ?_
    refine A_istore d_319_92 ml_319 rfl rfl ?_
    refine A_iinc d_319_94 ic_1 rfl ml_319 rfl rfl ?_
    refine P_goto (tgt := 17) d_319_97 rfl ?_
    exact hrec _ _ _ hW  hf
  · refine A_iconst d_319_87 ic_1 ?_
    refine P_goto (tgt := 92) d_319_88 rfl ?_
    refine A_istore d_319_92 ml_319 rfl rfl ?_
    refine A_iinc d_319_94 ic_1 rfl ml_319 rfl rfl ?_
    refine P_goto (tgt := 17) d_319_97 rfl ?_
    exact hrec _ _ _ hW  hf
def f_Mo_fitsSet_b17 (rec : Int32 → Int32 → AM → Option (Int32 × AM)) (v2 : Int32) (v3 : Int32) (v4 : Int32) (v5 : Int32) (M : AM) : Option (Int32 × AM) :=
  if (gI M 105 67) ≤ v5 then some (v4, M) else if v4 = 0 then some (v4, M) else ald 30 M 133 v5 (fun x1 => if v2 < x1 then rec v4 (v5 + 1) M else ald 30 M 134 v5 (fun x2 => if x2 < 0 then f_Mo_fitsSet_j66 rec v2 v3 v5 M else ald 30 M 134 v5 (fun x3 => if v2 < x3 then f_Mo_fitsSet_j66 rec v2 v3 v5 M else rec v4 (v5 + 1) M)))
def f_Mo_fitsSet_l17 (v2 : Int32) (v3 : Int32) : Nat → Int32 → Int32 → AM → Option (Int32 × AM)
  | 0, _, _, _ => none
  | n + 1, v4, v5, M => f_Mo_fitsSet_b17 (f_Mo_fitsSet_l17 v2 v3 n) v2 v3 v4 v5 M
set_option maxRecDepth 20000 in
theorem t_Mo_fitsSet_b17 {G : GT} {d : Nat} {v2 : Int32} {v3 : Int32} {v4 : Int32} {v5 : Int32} {M : AM} {Q : AM → Option Value → Prop} {yo : Int32} {Mo : AM} {rec : Int32 → Int32 → AM → Option (Int32 × AM)} (hrec : ∀ (v4 : Int32) (v5 : Int32) (M : AM), WT M → rec v4 v5 M = some (yo, Mo) → PW G (d + 2) 319 17 [.ref 105, ux, .int v2, .int v3, .int v4, .int v5] [] M 0 0 Q) (k1 : WT Mo → PW G (d + 2) 319 100 [ux, ux, ux, ux, .int yo, ux] [] Mo 0 0 Q) (hW : WT M)   (hf : f_Mo_fitsSet_b17 rec v2 v3 v4 v5 M = some (yo, Mo)) : PW G (d + 2) 319 17 [.ref 105, ux, .int v2, .int v3, .int v4, .int v5] [] M 0 0 Q := by
  refine P_iload d_319_17 rfl ?_
  refine P_aload_n d_319_19 rfl ?_
  refine A_gI d_319_20 cn_319 fk_CordLoftModel_393 k_105 hW ?_
  refine A_icmp_ge (tgt := 100) d_319_23 rfl hf (fun hf => ?_) (fun hf => ?_)
  · refine P_fgt [false, false, false, false, true, false] ?_
    cases hf
    exact k1 hW 
  · refine P_iload d_319_26 rfl ?_
    refine A_if_eq (tgt := 100) d_319_28 rfl hf (fun hf => ?_) (fun hf => ?_)
    · refine P_fgt [false, false, false, false, true, false] ?_
      cases hf
      exact k1 hW 
    · refine P_aload_n d_319_31 rfl ?_
      refine A_gF d_319_32 cn_319 fk_CordLoftModel_97 ft_13_64 k_105 hW ?_
      refine P_iload d_319_35 rfl ?_
      refine A_iald d_319_37 k_133 l_133 hW hf (fun hf => ?_)
      refine P_iload_n d_319_38 rfl ?_
      refine A_icmp_gt (tgt := 94) d_319_39 rfl hf (fun hf => ?_) (fun hf => ?_)
      · refine A_iinc d_319_94 ic_1 rfl ml_319 rfl rfl ?_
        refine P_goto (tgt := 17) d_319_97 rfl ?_
        exact hrec _ _ _ hW  hf
      · refine P_aload_n d_319_42 rfl ?_
        refine A_gF d_319_43 cn_319 fk_CordLoftModel_100 ft_13_65 k_105 hW ?_
        refine P_iload d_319_46 rfl ?_
        refine A_iald d_319_48 k_134 l_134 hW hf (fun hf => ?_)
        refine A_if_lt (tgt := 66) d_319_49 rfl hf (fun hf => ?_) (fun hf => ?_)
        · refine P_fgt [true, false, true, true, false, true] ?_
          exact t_Mo_fitsSet_j66 hrec k1 hW  hf
        · refine P_aload_n d_319_52 rfl ?_
          refine A_gF d_319_53 cn_319 fk_CordLoftModel_100 ft_13_65 k_105 hW ?_
          refine P_iload d_319_56 rfl ?_
          refine A_iald d_319_58 k_134 l_134 hW hf (fun hf => ?_)
          refine P_iload_n d_319_59 rfl ?_
          refine A_icmp_gt (tgt := 66) d_319_60 rfl hf (fun hf => ?_) (fun hf => ?_)
          · refine P_fgt [true, false, true, true, false, true] ?_
            exact t_Mo_fitsSet_j66 hrec k1 hW  hf
          · refine P_goto (tgt := 94) d_319_63 rfl ?_
            refine A_iinc d_319_94 ic_1 rfl ml_319 rfl rfl ?_
            refine P_goto (tgt := 17) d_319_97 rfl ?_
            exact hrec _ _ _ hW  hf
theorem t_Mo_fitsSet_l17 {G : GT} {d : Nat} {v2 : Int32} {v3 : Int32} {Q : AM → Option Value → Prop} {yo : Int32} {Mo : AM} (k1 : WT Mo → PW G (d + 2) 319 100 [ux, ux, ux, ux, .int yo, ux] [] Mo 0 0 Q)  : ∀ (z : Nat) (v4 : Int32) (v5 : Int32) (M : AM), WT M → f_Mo_fitsSet_l17 v2 v3 z v4 v5 M = some (yo, Mo) → PW G (d + 2) 319 17 [.ref 105, ux, .int v2, .int v3, .int v4, .int v5] [] M 0 0 Q := by
  intro z
  induction z with
  | zero => intro v4 v5 M hW hf; cases hf
  | succ z ih => intro v4 v5 M hW hf; exact t_Mo_fitsSet_b17 (fun v4 v5 M hW hf => ih v4 v5 M hW hf) k1 hW   hf
def f_Mo_fitsSet (a1 : Int32) (a2 : Int32) (M : AM) : Option (Int32 × AM) :=
  bnd (f_Mo_turnedBy a1 M) (fun r1 M2 => bnd (f_Mo_fitsSet_l17 a2 ((gI M 105 43) ^^^ r1) fu 1 0 M2) (fun y3 M4 => ckB y3 (some (y3, M4))))
set_option maxRecDepth 20000 in
theorem t_Mo_fitsSet {G : GT} {d : Nat} {a1 : Int32} {a2 : Int32} {M : AM} {Q : AM → Option Value → Prop} {r : Int32} {M' : AM} (hW : WT M)  (hf : f_Mo_fitsSet a1 a2 M = some (r, M')) (k : WT M' → (r = 0 ∨ r = 1) → Q M' (some (.int r)))  : Cal G (d + 2) 319 [.ref 105, .int a1, .int a2] M Q := by
  refine A_enter ml_319 rfl ?_
  refine P_aload_n d_319_0 rfl ?_
  refine A_gI d_319_1 cn_319 fk_CordLoftModel_372 k_105 hW ?_
  refine P_aload_n d_319_4 rfl ?_
  refine P_iload_n d_319_5 rfl ?_
  refine A_V1 d_319_6 vk_319_435 ml_270 rfl k_105 hW rfl hf (fun r1 M2 hc hf => t_Mo_turnedBy hW  hc (fun hW => ?_))
  refine P_ixor d_319_9 ?_
  refine A_istore_n d_319_10 ml_319 rfl rfl ?_
  refine A_iconst d_319_11 ic_1 ?_
  refine A_istore d_319_12 ml_319 rfl rfl ?_
  refine A_iconst d_319_14 ic_0 ?_
  refine A_istore d_319_15 ml_319 rfl rfl ?_
  obtain ⟨y3, M4, hl, hf⟩ := bnd_some hf
  refine P_fgt [true, false, true, true, true, true] ?_
  refine t_Mo_fitsSet_l17 (fun hW => ?_)  fu _ _ _ hW  hl
  refine P_iload d_319_100 rfl ?_
  refine A_ckB hf (fun hb5 hf => ?_)
  exact A_zret d_319_102 mr_319 hW hb5 hf k
def f_Mo_fits_b4 (rec : Int32 → Int32 → AM → Option (Int32 × AM)) (v1 : Int32) (v2 : Int32) (v3 : Int32) (M : AM) : Option (Int32 × AM) :=
  if ((1 : Int32) <<< ((gI M 105 42) &&& 31)) ≤ v3 then some (v2, M) else bnd (f_Mo_fitsSet v3 v1 M) (fun r1 M2 => bnd (f_Mo_truth r1 M2) (fun r3 M4 => rec (v2 + r3) (v3 + 1) M4))
def f_Mo_fits_l4 (v1 : Int32) : Nat → Int32 → Int32 → AM → Option (Int32 × AM)
  | 0, _, _, _ => none
  | n + 1, v2, v3, M => f_Mo_fits_b4 (f_Mo_fits_l4 v1 n) v1 v2 v3 M
set_option maxRecDepth 20000 in
theorem t_Mo_fits_b4 {G : GT} {d : Nat} {v1 : Int32} {v2 : Int32} {v3 : Int32} {M : AM} {Q : AM → Option Value → Prop} {yo : Int32} {Mo : AM} {rec : Int32 → Int32 → AM → Option (Int32 × AM)} (hrec : ∀ (v2 : Int32) (v3 : Int32) (M : AM), WT M → rec v2 v3 M = some (yo, Mo) → PW G (d + 3) 318 4 [.ref 105, .int v1, .int v2, .int v3] [] M 0 0 Q) (k1 : WT Mo → PW G (d + 3) 318 32 [ux, ux, .int yo, ux] [] Mo 0 0 Q) (hW : WT M)   (hf : f_Mo_fits_b4 rec v1 v2 v3 M = some (yo, Mo)) : PW G (d + 3) 318 4 [.ref 105, .int v1, .int v2, .int v3] [] M 0 0 Q := by
  refine P_iload_n d_318_4 rfl ?_
  refine A_iconst d_318_5 ic_1 ?_
  refine P_aload_n d_318_6 rfl ?_
  refine A_gI d_318_7 cn_318 fk_CordLoftModel_369 k_105 hW ?_
  refine P_ishl d_318_10 ?_
  refine A_icmp_ge (tgt := 32) d_318_11 rfl hf (fun hf => ?_) (fun hf => ?_)
  · refine P_fgt [false, false, true, false] ?_
    cases hf
    exact k1 hW 
  · refine P_iload_n d_318_14 rfl ?_
    refine P_aload_n d_318_15 rfl ?_
    refine P_iload_n d_318_16 rfl ?_
    refine P_iload_n d_318_17 rfl ?_
    refine A_V2 d_318_18 vk_318_489 ml_319 rfl k_105 hW rfl hf (fun r1 M2 hc hf => t_Mo_fitsSet hW  hc (fun hW hb2 => ?_))
    refine A_S1 d_318_21 sk_318_283 ml_259 rfl rfl hf (fun r3 M4 hc hf => t_Mo_truth hW  hc (fun hW => ?_))
    refine P_iadd d_318_24 ?_
    refine A_istore_n d_318_25 ml_318 rfl rfl ?_
    refine A_iinc d_318_26 ic_1 rfl ml_318 rfl rfl ?_
    refine P_goto (tgt := 4) d_318_29 rfl ?_
    exact hrec _ _ _ hW  hf
theorem t_Mo_fits_l4 {G : GT} {d : Nat} {v1 : Int32} {Q : AM → Option Value → Prop} {yo : Int32} {Mo : AM} (k1 : WT Mo → PW G (d + 3) 318 32 [ux, ux, .int yo, ux] [] Mo 0 0 Q)  : ∀ (z : Nat) (v2 : Int32) (v3 : Int32) (M : AM), WT M → f_Mo_fits_l4 v1 z v2 v3 M = some (yo, Mo) → PW G (d + 3) 318 4 [.ref 105, .int v1, .int v2, .int v3] [] M 0 0 Q := by
  intro z
  induction z with
  | zero => intro v2 v3 M hW hf; cases hf
  | succ z ih => intro v2 v3 M hW hf; exact t_Mo_fits_b4 (fun v2 v3 M hW hf => ih v2 v3 M hW hf) k1 hW   hf
def f_Mo_fits (a1 : Int32) (M : AM) : Option (Int32 × AM) :=
  bnd (f_Mo_fits_l4 a1 fu 0 0 M) (fun y1 M2 => some (y1, M2))
set_option maxRecDepth 20000 in
theorem t_Mo_fits {G : GT} {d : Nat} {a1 : Int32} {M : AM} {Q : AM → Option Value → Prop} {r : Int32} {M' : AM} (hW : WT M)  (hf : f_Mo_fits a1 M = some (r, M')) (k : WT M' → Q M' (some (.int r)))  : Cal G (d + 3) 318 [.ref 105, .int a1] M Q := by
  refine A_enter ml_318 rfl ?_
  refine A_iconst d_318_0 ic_0 ?_
  refine A_istore_n d_318_1 ml_318 rfl rfl ?_
  refine A_iconst d_318_2 ic_0 ?_
  refine A_istore_n d_318_3 ml_318 rfl rfl ?_
  obtain ⟨y1, M2, hl, hf⟩ := bnd_some hf
  refine t_Mo_fits_l4 (fun hW => ?_)  fu _ _ _ hW  hl
  refine P_iload_n d_318_32 rfl ?_
  exact A_iret d_318_33 mr_318 hW hf k
def f_Mo_fit_b2 (rec : Int32 → AM → Option ((Unit × AM) ⊕ (Int32 × AM))) (v1 : Int32) (v2 : Int32) (M : AM) : Option ((Unit × AM) ⊕ (Int32 × AM)) :=
  if ((1 : Int32) <<< ((gI M 105 42) &&& 31)) ≤ v2 then some (.inl ((), M)) else bnd (f_Mo_fitsSet v2 v1 M) (fun r1 M2 => if r1 = 0 then rec (v2 + 1) M2 else some (.inr (v2, M2)))
def f_Mo_fit_l2 (v1 : Int32) : Nat → Int32 → AM → Option ((Unit × AM) ⊕ (Int32 × AM))
  | 0, _, _ => none
  | n + 1, v2, M => f_Mo_fit_b2 (f_Mo_fit_l2 v1 n) v1 v2 M
set_option maxRecDepth 20000 in
theorem t_Mo_fit_b2 {G : GT} {d : Nat} {v1 : Int32} {v2 : Int32} {M : AM} {Q : AM → Option Value → Prop} {o : (Unit × AM) ⊕ (Int32 × AM)} {rec : Int32 → AM → Option ((Unit × AM) ⊕ (Int32 × AM))} (hrec : ∀ (v2 : Int32) (M : AM), WT M → rec v2 M = some o → PW G (d + 3) 320 2 [.ref 105, .int v1, .int v2] [] M 0 0 Q) (k1 : ∀ (yo : Unit) (Mo : AM), o = .inl (yo, Mo) → WT Mo → PW G (d + 3) 320 29 [ux, ux, ux] [] Mo 0 0 Q) (k2 : ∀ (r : Int32) (M' : AM), o = .inr (r, M') → WT M' → Q M' (some (.int r))) (hW : WT M)   (hf : f_Mo_fit_b2 rec v1 v2 M = some o) : PW G (d + 3) 320 2 [.ref 105, .int v1, .int v2] [] M 0 0 Q := by
  refine P_iload_n d_320_2 rfl ?_
  refine A_iconst d_320_3 ic_1 ?_
  refine P_aload_n d_320_4 rfl ?_
  refine A_gI d_320_5 cn_320 fk_CordLoftModel_369 k_105 hW ?_
  refine P_ishl d_320_8 ?_
  refine A_icmp_ge (tgt := 29) d_320_9 rfl hf (fun hf => ?_) (fun hf => ?_)
  · refine P_fgt [false, false, false] ?_
    cases hf
    exact k1 _ _ rfl hW 
  · refine P_aload_n d_320_12 rfl ?_
    refine P_iload_n d_320_13 rfl ?_
    refine P_iload_n d_320_14 rfl ?_
    refine A_V2 d_320_15 vk_320_489 ml_319 rfl k_105 hW rfl hf (fun r1 M2 hc hf => t_Mo_fitsSet hW  hc (fun hW hb2 => ?_))
    refine A_if_eq (tgt := 23) d_320_18 rfl hf (fun hf => ?_) (fun hf => ?_)
    · refine A_iinc d_320_23 ic_1 rfl ml_320 rfl rfl ?_
      refine P_goto (tgt := 2) d_320_26 rfl ?_
      exact hrec _ _ hW  hf
    · refine P_iload_n d_320_21 rfl ?_
      cases hf
      exact A_iret d_320_22 mr_320 hW rfl (fun hW => k2 _ _ rfl hW)
theorem t_Mo_fit_l2 {G : GT} {d : Nat} {v1 : Int32} {Q : AM → Option Value → Prop} {o : (Unit × AM) ⊕ (Int32 × AM)} (k1 : ∀ (yo : Unit) (Mo : AM), o = .inl (yo, Mo) → WT Mo → PW G (d + 3) 320 29 [ux, ux, ux] [] Mo 0 0 Q) (k2 : ∀ (r : Int32) (M' : AM), o = .inr (r, M') → WT M' → Q M' (some (.int r)))  : ∀ (z : Nat) (v2 : Int32) (M : AM), WT M → f_Mo_fit_l2 v1 z v2 M = some o → PW G (d + 3) 320 2 [.ref 105, .int v1, .int v2] [] M 0 0 Q := by
  intro z
  induction z with
  | zero => intro v2 M hW hf; cases hf
  | succ z ih => intro v2 M hW hf; exact t_Mo_fit_b2 (fun v2 M hW hf => ih v2 M hW hf) k1 k2 hW   hf
def f_Mo_fit (a1 : Int32) (M : AM) : Option (Int32 × AM) :=
  bn2 (f_Mo_fit_l2 a1 fu 0 M) (fun y1 M2 => some ((-1), M2))
set_option maxRecDepth 20000 in
theorem t_Mo_fit {G : GT} {d : Nat} {a1 : Int32} {M : AM} {Q : AM → Option Value → Prop} {r : Int32} {M' : AM} (hW : WT M)  (hf : f_Mo_fit a1 M = some (r, M')) (k : WT M' → Q M' (some (.int r)))  : Cal G (d + 3) 320 [.ref 105, .int a1] M Q := by
  refine A_enter ml_320 rfl ?_
  refine A_iconst d_320_0 ic_0 ?_
  refine A_istore_n d_320_1 ml_320 rfl rfl ?_
  obtain ⟨o, hl, hf⟩ := bn2_some hf
  refine t_Mo_fit_l2 (o := o) (fun y1 M2 e hW => ?_) (fun r1 Mr e hW => ?_)  fu _ _ hW  hl
  · subst e
    change _ = some (r, M') at hf
    refine A_iconst d_320_29 ic_m1 ?_
    exact A_iret d_320_30 mr_320 hW hf k
  · subst e; cases hf; exact k hW
def f_Mo_sure_j63 (rec : Int32 → Int32 → AM → Option (Int32 × AM)) (v1 : Int32) (v2 : Int32) (v3 : Int32) (v5 : Int32) (s0 : Int32) (s1 : Int32) (M : AM) : Option (Int32 × AM) :=
  bnd (f_Mo_truth s1 M) (fun r1 M2 => rec (s0 + r1) (v5 + 1) M2)
set_option maxRecDepth 20000 in
theorem t_Mo_sure_j63 {G : GT} {d : Nat} {v1 : Int32} {v2 : Int32} {v3 : Int32} {v5 : Int32} {s0 : Int32} {s1 : Int32} {M : AM} {Q : AM → Option Value → Prop} {yo : Int32} {Mo : AM} {rec : Int32 → Int32 → AM → Option (Int32 × AM)} (hrec : ∀ (v4 : Int32) (v5 : Int32) (M : AM), WT M → rec v4 v5 M = some (yo, Mo) → PW G (d + 4) 321 26 [.ref 105, .int v1, .int v2, .int v3, .int v4, .int v5] [] M 0 0 Q) (k1 : WT Mo → PW G (d + 4) 321 75 [ux, ux, ux, .int v3, .int yo, ux] [] Mo 0 0 Q) (hW : WT M)  (hf : f_Mo_sure_j63 rec v1 v2 v3 v5 s0 s1 M = some (yo, Mo)) : PW G (d + 4) 321 63 [.ref 105, .int v1, .int v2, .int v3, ux, .int v5] [.int s1, .int s0] M 0 0 Q := by
  refine A_S1 d_321_63 sk_321_283 ml_259 rfl rfl hf (fun r1 M2 hc hf => t_Mo_truth hW  hc (fun hW => ?_))
  refine P_iadd d_321_66 ?_
  refine A_istore d_321_67 ml_321 rfl rfl ?_
  refine A_iinc d_321_69 ic_1 rfl ml_321 rfl rfl ?_
  refine P_goto (tgt := 26) d_321_72 rfl ?_
  exact hrec _ _ _ hW  hf
def f_Mo_sure_j62 (rec : Int32 → Int32 → AM → Option (Int32 × AM)) (v1 : Int32) (v2 : Int32) (v3 : Int32) (v5 : Int32) (s0 : Int32) (M : AM) : Option (Int32 × AM) :=
  f_Mo_sure_j63 rec v1 v2 v3 v5 s0 0 M
set_option maxRecDepth 20000 in
theorem t_Mo_sure_j62 {G : GT} {d : Nat} {v1 : Int32} {v2 : Int32} {v3 : Int32} {v5 : Int32} {s0 : Int32} {M : AM} {Q : AM → Option Value → Prop} {yo : Int32} {Mo : AM} {rec : Int32 → Int32 → AM → Option (Int32 × AM)} (hrec : ∀ (v4 : Int32) (v5 : Int32) (M : AM), WT M → rec v4 v5 M = some (yo, Mo) → PW G (d + 4) 321 26 [.ref 105, .int v1, .int v2, .int v3, .int v4, .int v5] [] M 0 0 Q) (k1 : WT Mo → PW G (d + 4) 321 75 [ux, ux, ux, .int v3, .int yo, ux] [] Mo 0 0 Q) (hW : WT M)  (hf : f_Mo_sure_j62 rec v1 v2 v3 v5 s0 M = some (yo, Mo)) : PW G (d + 4) 321 62 [.ref 105, .int v1, .int v2, .int v3, ux, .int v5] [.int s0] M 0 0 Q := by
  refine A_iconst d_321_62 ic_0 ?_
  exact t_Mo_sure_j63 hrec k1 hW  hf
def f_Mo_sure_b26 (rec : Int32 → Int32 → AM → Option (Int32 × AM)) (v1 : Int32) (v2 : Int32) (v3 : Int32) (v4 : Int32) (v5 : Int32) (M : AM) : Option (Int32 × AM) :=
  if ((1 : Int32) <<< ((gI M 105 42) &&& 31)) ≤ v5 then some (v4, M) else bnd (f_Mo_has v5 v1 M) (fun r1 M2 => if r1 = 0 then f_Mo_sure_j62 rec v1 v2 v3 v5 v4 M2 else bnd (f_Mo_fitsSet v5 v2 M2) (fun r3 M4 => if r3 = 0 then f_Mo_sure_j62 rec v1 v2 v3 v5 v4 M4 else f_Mo_sure_j63 rec v1 v2 v3 v5 v4 1 M4))
def f_Mo_sure_l26 (v1 : Int32) (v2 : Int32) (v3 : Int32) : Nat → Int32 → Int32 → AM → Option (Int32 × AM)
  | 0, _, _, _ => none
  | n + 1, v4, v5, M => f_Mo_sure_b26 (f_Mo_sure_l26 v1 v2 v3 n) v1 v2 v3 v4 v5 M
set_option maxRecDepth 20000 in
theorem t_Mo_sure_b26 {G : GT} {d : Nat} {v1 : Int32} {v2 : Int32} {v3 : Int32} {v4 : Int32} {v5 : Int32} {M : AM} {Q : AM → Option Value → Prop} {yo : Int32} {Mo : AM} {rec : Int32 → Int32 → AM → Option (Int32 × AM)} (hrec : ∀ (v4 : Int32) (v5 : Int32) (M : AM), WT M → rec v4 v5 M = some (yo, Mo) → PW G (d + 4) 321 26 [.ref 105, .int v1, .int v2, .int v3, .int v4, .int v5] [] M 0 0 Q) (k1 : WT Mo → PW G (d + 4) 321 75 [ux, ux, ux, .int v3, .int yo, ux] [] Mo 0 0 Q) (hW : WT M)   (hf : f_Mo_sure_b26 rec v1 v2 v3 v4 v5 M = some (yo, Mo)) : PW G (d + 4) 321 26 [.ref 105, .int v1, .int v2, .int v3, .int v4, .int v5] [] M 0 0 Q := by
  refine P_iload d_321_26 rfl ?_
  refine A_iconst d_321_28 ic_1 ?_
  refine P_aload_n d_321_29 rfl ?_
  refine A_gI d_321_30 cn_321 fk_CordLoftModel_369 k_105 hW ?_
  refine P_ishl d_321_33 ?_
  refine A_icmp_ge (tgt := 75) d_321_34 rfl hf (fun hf => ?_) (fun hf => ?_)
  · refine P_fgt [false, false, false, true, true, false] ?_
    cases hf
    exact k1 hW 
  · refine P_iload d_321_37 rfl ?_
    refine P_iload d_321_39 rfl ?_
    refine P_iload_n d_321_41 rfl ?_
    refine A_S2 d_321_42 sk_321_326 ml_225 rfl rfl hf (fun r1 M2 hc hf => t_Mo_has hW  hc (fun hW hb2 => ?_))
    refine A_if_eq (tgt := 62) d_321_45 rfl hf (fun hf => ?_) (fun hf => ?_)
    · refine P_fgt [true, true, true, true, false, true] ?_
      exact t_Mo_sure_j62 hrec k1 hW  hf
    · refine P_aload_n d_321_48 rfl ?_
      refine P_iload d_321_49 rfl ?_
      refine P_iload_n d_321_51 rfl ?_
      refine A_V2 d_321_52 vk_321_489 ml_319 rfl k_105 hW rfl hf (fun r3 M4 hc hf => t_Mo_fitsSet hW  hc (fun hW hb4 => ?_))
      refine A_if_eq (tgt := 62) d_321_55 rfl hf (fun hf => ?_) (fun hf => ?_)
      · refine P_fgt [true, true, true, true, false, true] ?_
        exact t_Mo_sure_j62 hrec k1 hW  hf
      · refine A_iconst d_321_58 ic_1 ?_
        refine P_goto (tgt := 63) d_321_59 rfl ?_
        refine P_fgt [true, true, true, true, false, true] ?_
        exact t_Mo_sure_j63 hrec k1 hW  hf
theorem t_Mo_sure_l26 {G : GT} {d : Nat} {v1 : Int32} {v2 : Int32} {v3 : Int32} {Q : AM → Option Value → Prop} {yo : Int32} {Mo : AM} (k1 : WT Mo → PW G (d + 4) 321 75 [ux, ux, ux, .int v3, .int yo, ux] [] Mo 0 0 Q)  : ∀ (z : Nat) (v4 : Int32) (v5 : Int32) (M : AM), WT M → f_Mo_sure_l26 v1 v2 v3 z v4 v5 M = some (yo, Mo) → PW G (d + 4) 321 26 [.ref 105, .int v1, .int v2, .int v3, .int v4, .int v5] [] M 0 0 Q := by
  intro z
  induction z with
  | zero => intro v4 v5 M hW hf; cases hf
  | succ z ih => intro v4 v5 M hW hf; exact t_Mo_sure_b26 (fun v4 v5 M hW hf => ih v4 v5 M hW hf) k1 hW   hf
def f_Mo_sure (a1 : Int32) (a2 : Int32) (M : AM) : Option (Int32 × AM) :=
  bnd (f_Mo_fits a2 M) (fun r1 M2 => bnd (f_Mo_isCord a1 M2) (fun r3 M4 => if r3 = 0 then some ((-1), M4) else if r1 = 0 then some ((-1), M4) else bnd (f_Mo_sure_l26 a1 a2 r1 fu 0 0 M4) (fun y5 M6 => if y5 = r1 then some (1, M6) else if y5 = 0 then some (0, M6) else some ((-2), M6))))
set_option maxRecDepth 20000 in
theorem t_Mo_sure {G : GT} {d : Nat} {a1 : Int32} {a2 : Int32} {M : AM} {Q : AM → Option Value → Prop} {r : Int32} {M' : AM} (hW : WT M)  (hf : f_Mo_sure a1 a2 M = some (r, M')) (k : WT M' → Q M' (some (.int r)))  : Cal G (d + 4) 321 [.ref 105, .int a1, .int a2] M Q := by
  refine A_enter ml_321 rfl ?_
  refine P_aload_n d_321_0 rfl ?_
  refine P_iload_n d_321_1 rfl ?_
  refine A_V1 d_321_2 vk_321_492 ml_318 rfl k_105 hW rfl hf (fun r1 M2 hc hf => t_Mo_fits hW  hc (fun hW => ?_))
  refine A_istore_n d_321_5 ml_321 rfl rfl ?_
  refine P_aload_n d_321_6 rfl ?_
  refine P_iload_n d_321_7 rfl ?_
  refine A_V1 d_321_8 vk_321_405 ml_246 rfl k_105 hW rfl hf (fun r3 M4 hc hf => t_Mo_isCord hW  hc (fun hW hb4 => ?_))
  refine A_if_eq (tgt := 18) d_321_11 rfl hf (fun hf => ?_) (fun hf => ?_)
  · refine A_iconst d_321_18 ic_m1 ?_
    exact A_iret d_321_19 mr_321 hW hf k
  · refine P_iload_n d_321_14 rfl ?_
    refine A_if_ne (tgt := 20) d_321_15 rfl hf (fun hf => ?_) (fun hf => ?_)
    · refine A_iconst d_321_20 ic_0 ?_
      refine A_istore d_321_21 ml_321 rfl rfl ?_
      refine A_iconst d_321_23 ic_0 ?_
      refine A_istore d_321_24 ml_321 rfl rfl ?_
      obtain ⟨y5, M6, hl, hf⟩ := bnd_some hf
      refine t_Mo_sure_l26 (fun hW => ?_)  fu _ _ _ hW  hl
      refine P_iload d_321_75 rfl ?_
      refine P_iload_n d_321_77 rfl ?_
      refine A_icmp_ne (tgt := 85) d_321_78 rfl hf (fun hf => ?_) (fun hf => ?_)
      · refine P_iload d_321_85 rfl ?_
        refine A_if_ne (tgt := 94) d_321_87 rfl hf (fun hf => ?_) (fun hf => ?_)
        · refine P_bipush d_321_94 bi_m2 ?_
          exact A_iret d_321_96 mr_321 hW hf k
        · refine A_iconst d_321_90 ic_0 ?_
          refine P_goto (tgt := 96) d_321_91 rfl ?_
          exact A_iret d_321_96 mr_321 hW hf k
      · refine A_iconst d_321_81 ic_1 ?_
        refine P_goto (tgt := 96) d_321_82 rfl ?_
        exact A_iret d_321_96 mr_321 hW hf k
    · refine A_iconst d_321_18 ic_m1 ?_
      exact A_iret d_321_19 mr_321 hW hf k
def f_Mo_greater (a0 : Int32) (a1 : Int32) (M : AM) : Option (Int32 × AM) :=
  if a0 ≤ a1 then some (a1, M) else some (a0, M)
set_option maxRecDepth 20000 in
theorem t_Mo_greater {G : GT} {d : Nat} {a0 : Int32} {a1 : Int32} {M : AM} {Q : AM → Option Value → Prop} {r : Int32} {M' : AM} (hW : WT M)  (hf : f_Mo_greater a0 a1 M = some (r, M')) (k : WT M' → Q M' (some (.int r)))  : Cal G d 324 [.int a0, .int a1] M Q := by
  refine A_enter ml_324 rfl ?_
  refine P_iload_n d_324_0 rfl ?_
  refine P_iload_n d_324_1 rfl ?_
  refine A_icmp_le (tgt := 9) d_324_2 rfl hf (fun hf => ?_) (fun hf => ?_)
  · refine P_iload_n d_324_9 rfl ?_
    exact A_iret d_324_10 mr_324 hW hf k
  · refine P_iload_n d_324_5 rfl ?_
    refine P_goto (tgt := 10) d_324_6 rfl ?_
    exact A_iret d_324_10 mr_324 hW hf k
def f_Mo_leftBy_j52 (rec : Int32 → Int32 → AM → Option (Int32 × AM)) (v1 : Int32) (v2 : Int32) (v3 : Int32) (v5 : Int32) (s0 : Int32) (s1 : Int32) (M : AM) : Option (Int32 × AM) :=
  bnd (f_Mo_truth s1 M) (fun r1 M2 => rec (s0 + r1) (v5 + 1) M2)
set_option maxRecDepth 20000 in
theorem t_Mo_leftBy_j52 {G : GT} {d : Nat} {v1 : Int32} {v2 : Int32} {v3 : Int32} {v5 : Int32} {s0 : Int32} {s1 : Int32} {M : AM} {Q : AM → Option Value → Prop} {yo : Int32} {Mo : AM} {rec : Int32 → Int32 → AM → Option (Int32 × AM)} (hrec : ∀ (v4 : Int32) (v5 : Int32) (M : AM), WT M → rec v4 v5 M = some (yo, Mo) → PW G (d + 3) 323 6 [.ref 105, .int v1, .int v2, .int v3, .int v4, .int v5] [] M 0 0 Q) (k1 : WT Mo → PW G (d + 3) 323 64 [ux, ux, .int v2, ux, .int yo, ux] [] Mo 0 0 Q) (hW : WT M)  (hf : f_Mo_leftBy_j52 rec v1 v2 v3 v5 s0 s1 M = some (yo, Mo)) : PW G (d + 3) 323 52 [.ref 105, .int v1, .int v2, .int v3, ux, .int v5] [.int s1, .int s0] M 0 0 Q := by
  refine A_S1 d_323_52 sk_323_283 ml_259 rfl rfl hf (fun r1 M2 hc hf => t_Mo_truth hW  hc (fun hW => ?_))
  refine P_iadd d_323_55 ?_
  refine A_istore d_323_56 ml_323 rfl rfl ?_
  refine A_iinc d_323_58 ic_1 rfl ml_323 rfl rfl ?_
  refine P_goto (tgt := 6) d_323_61 rfl ?_
  exact hrec _ _ _ hW  hf
def f_Mo_leftBy_j51 (rec : Int32 → Int32 → AM → Option (Int32 × AM)) (v1 : Int32) (v2 : Int32) (v3 : Int32) (v5 : Int32) (s0 : Int32) (M : AM) : Option (Int32 × AM) :=
  f_Mo_leftBy_j52 rec v1 v2 v3 v5 s0 0 M
set_option maxRecDepth 20000 in
theorem t_Mo_leftBy_j51 {G : GT} {d : Nat} {v1 : Int32} {v2 : Int32} {v3 : Int32} {v5 : Int32} {s0 : Int32} {M : AM} {Q : AM → Option Value → Prop} {yo : Int32} {Mo : AM} {rec : Int32 → Int32 → AM → Option (Int32 × AM)} (hrec : ∀ (v4 : Int32) (v5 : Int32) (M : AM), WT M → rec v4 v5 M = some (yo, Mo) → PW G (d + 3) 323 6 [.ref 105, .int v1, .int v2, .int v3, .int v4, .int v5] [] M 0 0 Q) (k1 : WT Mo → PW G (d + 3) 323 64 [ux, ux, .int v2, ux, .int yo, ux] [] Mo 0 0 Q) (hW : WT M)  (hf : f_Mo_leftBy_j51 rec v1 v2 v3 v5 s0 M = some (yo, Mo)) : PW G (d + 3) 323 51 [.ref 105, .int v1, .int v2, .int v3, ux, .int v5] [.int s0] M 0 0 Q := by
  refine A_iconst d_323_51 ic_0 ?_
  exact t_Mo_leftBy_j52 hrec k1 hW  hf
def f_Mo_leftBy_b6 (rec : Int32 → Int32 → AM → Option (Int32 × AM)) (v1 : Int32) (v2 : Int32) (v3 : Int32) (v4 : Int32) (v5 : Int32) (M : AM) : Option (Int32 × AM) :=
  if ((1 : Int32) <<< ((gI M 105 42) &&& 31)) ≤ v5 then some (v4, M) else bnd (f_Mo_turnedBy v5 M) (fun r1 M2 => bnd (f_Mo_has ((gI M 105 43) ^^^ r1) v1 M2) (fun r3 M4 => if r3 = 0 then f_Mo_leftBy_j51 rec v1 v2 v3 v5 v4 M4 else bnd (f_Mo_fitsSet v5 v3 M4) (fun r5 M6 => if r5 = 0 then f_Mo_leftBy_j51 rec v1 v2 v3 v5 v4 M6 else f_Mo_leftBy_j52 rec v1 v2 v3 v5 v4 1 M6)))
def f_Mo_leftBy_l6 (v1 : Int32) (v2 : Int32) (v3 : Int32) : Nat → Int32 → Int32 → AM → Option (Int32 × AM)
  | 0, _, _, _ => none
  | n + 1, v4, v5, M => f_Mo_leftBy_b6 (f_Mo_leftBy_l6 v1 v2 v3 n) v1 v2 v3 v4 v5 M
set_option maxRecDepth 20000 in
theorem t_Mo_leftBy_b6 {G : GT} {d : Nat} {v1 : Int32} {v2 : Int32} {v3 : Int32} {v4 : Int32} {v5 : Int32} {M : AM} {Q : AM → Option Value → Prop} {yo : Int32} {Mo : AM} {rec : Int32 → Int32 → AM → Option (Int32 × AM)} (hrec : ∀ (v4 : Int32) (v5 : Int32) (M : AM), WT M → rec v4 v5 M = some (yo, Mo) → PW G (d + 3) 323 6 [.ref 105, .int v1, .int v2, .int v3, .int v4, .int v5] [] M 0 0 Q) (k1 : WT Mo → PW G (d + 3) 323 64 [ux, ux, .int v2, ux, .int yo, ux] [] Mo 0 0 Q) (hW : WT M)   (hf : f_Mo_leftBy_b6 rec v1 v2 v3 v4 v5 M = some (yo, Mo)) : PW G (d + 3) 323 6 [.ref 105, .int v1, .int v2, .int v3, .int v4, .int v5] [] M 0 0 Q := by
  refine P_iload d_323_6 rfl ?_
  refine A_iconst d_323_8 ic_1 ?_
  refine P_aload_n d_323_9 rfl ?_
  refine A_gI d_323_10 cn_323 fk_CordLoftModel_369 k_105 hW ?_
  refine P_ishl d_323_13 ?_
  refine A_icmp_ge (tgt := 64) d_323_14 rfl hf (fun hf => ?_) (fun hf => ?_)
  · refine P_fgt [false, false, true, false, true, false] ?_
    cases hf
    exact k1 hW 
  · refine P_iload d_323_17 rfl ?_
    refine P_aload_n d_323_19 rfl ?_
    refine A_gI d_323_20 cn_323 fk_CordLoftModel_372 k_105 hW ?_
    refine P_aload_n d_323_23 rfl ?_
    refine P_iload d_323_24 rfl ?_
    refine A_V1 d_323_26 vk_323_435 ml_270 rfl k_105 hW rfl hf (fun r1 M2 hc hf => t_Mo_turnedBy hW  hc (fun hW => ?_))
    refine P_ixor d_323_29 ?_
    refine P_iload_n d_323_30 rfl ?_
    refine A_S2 d_323_31 sk_323_326 ml_225 rfl rfl hf (fun r3 M4 hc hf => t_Mo_has hW  hc (fun hW hb4 => ?_))
    refine A_if_eq (tgt := 51) d_323_34 rfl hf (fun hf => ?_) (fun hf => ?_)
    · refine P_fgt [true, true, true, true, false, true] ?_
      exact t_Mo_leftBy_j51 hrec k1 hW  hf
    · refine P_aload_n d_323_37 rfl ?_
      refine P_iload d_323_38 rfl ?_
      refine P_iload_n d_323_40 rfl ?_
      refine A_V2 d_323_41 vk_323_489 ml_319 rfl k_105 hW rfl hf (fun r5 M6 hc hf => t_Mo_fitsSet hW  hc (fun hW hb6 => ?_))
      refine A_if_eq (tgt := 51) d_323_44 rfl hf (fun hf => ?_) (fun hf => ?_)
      · refine P_fgt [true, true, true, true, false, true] ?_
        exact t_Mo_leftBy_j51 hrec k1 hW  hf
      · refine A_iconst d_323_47 ic_1 ?_
        refine P_goto (tgt := 52) d_323_48 rfl ?_
        refine P_fgt [true, true, true, true, false, true] ?_
        exact t_Mo_leftBy_j52 hrec k1 hW  hf
theorem t_Mo_leftBy_l6 {G : GT} {d : Nat} {v1 : Int32} {v2 : Int32} {v3 : Int32} {Q : AM → Option Value → Prop} {yo : Int32} {Mo : AM} (k1 : WT Mo → PW G (d + 3) 323 64 [ux, ux, .int v2, ux, .int yo, ux] [] Mo 0 0 Q)  : ∀ (z : Nat) (v4 : Int32) (v5 : Int32) (M : AM), WT M → f_Mo_leftBy_l6 v1 v2 v3 z v4 v5 M = some (yo, Mo) → PW G (d + 3) 323 6 [.ref 105, .int v1, .int v2, .int v3, .int v4, .int v5] [] M 0 0 Q := by
  intro z
  induction z with
  | zero => intro v4 v5 M hW hf; cases hf
  | succ z ih => intro v4 v5 M hW hf; exact t_Mo_leftBy_b6 (fun v4 v5 M hW hf => ih v4 v5 M hW hf) k1 hW   hf
def f_Mo_leftBy (a1 : Int32) (a2 : Int32) (a3 : Int32) (M : AM) : Option (Int32 × AM) :=
  bnd (f_Mo_leftBy_l6 a1 a2 a3 fu 0 0 M) (fun y1 M2 => bnd (f_Mo_greater y1 (a2 - y1) M2) (fun r3 M4 => some (r3, M4)))
set_option maxRecDepth 20000 in
theorem t_Mo_leftBy {G : GT} {d : Nat} {a1 : Int32} {a2 : Int32} {a3 : Int32} {M : AM} {Q : AM → Option Value → Prop} {r : Int32} {M' : AM} (hW : WT M)  (hf : f_Mo_leftBy a1 a2 a3 M = some (r, M')) (k : WT M' → Q M' (some (.int r)))  : Cal G (d + 3) 323 [.ref 105, .int a1, .int a2, .int a3] M Q := by
  refine A_enter ml_323 rfl ?_
  refine A_iconst d_323_0 ic_0 ?_
  refine A_istore d_323_1 ml_323 rfl rfl ?_
  refine A_iconst d_323_3 ic_0 ?_
  refine A_istore d_323_4 ml_323 rfl rfl ?_
  obtain ⟨y1, M2, hl, hf⟩ := bnd_some hf
  refine t_Mo_leftBy_l6 (fun hW => ?_)  fu _ _ _ hW  hl
  refine P_iload d_323_64 rfl ?_
  refine P_iload_n d_323_66 rfl ?_
  refine P_iload d_323_67 rfl ?_
  refine P_isub d_323_69 ?_
  refine A_S2 d_323_70 sk_323_495 ml_324 rfl rfl hf (fun r3 M4 hc hf => t_Mo_greater hW  hc (fun hW => ?_))
  exact A_iret d_323_73 mr_323 hW hf k
def f_Mo_ask_b34 (rec : Int32 → Int32 → AM → Option (Int32 × AM)) (v1 : Int32) (v2 : Int32) (v3 : Int32) (v4 : Int32) (v5 : Int32) (M : AM) : Option (Int32 × AM) :=
  if (gI M 105 41) ≤ v5 then some (v4, M) else bnd (f_Mo_leftBy v5 v3 v2 M) (fun r1 M2 => bnd (f_Mo_leftBy v4 v3 v2 M2) (fun r3 M4 => if r3 ≤ r1 then rec v4 (v5 + 1) M4 else rec v5 (v5 + 1) M4))
def f_Mo_ask_l34 (v1 : Int32) (v2 : Int32) (v3 : Int32) : Nat → Int32 → Int32 → AM → Option (Int32 × AM)
  | 0, _, _, _ => none
  | n + 1, v4, v5, M => f_Mo_ask_b34 (f_Mo_ask_l34 v1 v2 v3 n) v1 v2 v3 v4 v5 M
set_option maxRecDepth 20000 in
theorem t_Mo_ask_b34 {G : GT} {d : Nat} {v1 : Int32} {v2 : Int32} {v3 : Int32} {v4 : Int32} {v5 : Int32} {M : AM} {Q : AM → Option Value → Prop} {yo : Int32} {Mo : AM} {rec : Int32 → Int32 → AM → Option (Int32 × AM)} (hrec : ∀ (v4 : Int32) (v5 : Int32) (M : AM), WT M → rec v4 v5 M = some (yo, Mo) → PW G (d + 4) 322 34 [.ref 105, .int v1, .int v2, .int v3, .int v4, .int v5] [] M 0 0 Q) (k1 : WT Mo → PW G (d + 4) 322 77 [.ref 105, .int v1, .int v2, .int v3, .int yo, ux] [] Mo 0 0 Q) (hW : WT M)   (hf : f_Mo_ask_b34 rec v1 v2 v3 v4 v5 M = some (yo, Mo)) : PW G (d + 4) 322 34 [.ref 105, .int v1, .int v2, .int v3, .int v4, .int v5] [] M 0 0 Q := by
  refine P_iload d_322_34 rfl ?_
  refine P_aload_n d_322_36 rfl ?_
  refine A_gI d_322_37 cn_322 fk_CordLoftModel_303 k_105 hW ?_
  refine A_icmp_ge (tgt := 77) d_322_40 rfl hf (fun hf => ?_) (fun hf => ?_)
  · refine P_fgt [true, true, true, true, true, false] ?_
    cases hf
    exact k1 hW 
  · refine P_aload_n d_322_43 rfl ?_
    refine P_iload d_322_44 rfl ?_
    refine P_iload_n d_322_46 rfl ?_
    refine P_iload_n d_322_47 rfl ?_
    refine A_V3 d_322_48 vk_322_498 ml_323 rfl k_105 hW rfl hf (fun r1 M2 hc hf => t_Mo_leftBy hW  hc (fun hW => ?_))
    refine P_aload_n d_322_51 rfl ?_
    refine P_iload d_322_52 rfl ?_
    refine P_iload_n d_322_54 rfl ?_
    refine P_iload_n d_322_55 rfl ?_
    refine A_V3 d_322_56 vk_322_498 ml_323 rfl k_105 hW rfl hf (fun r3 M4 hc hf => t_Mo_leftBy hW  hc (fun hW => ?_))
    refine A_icmp_ge (tgt := 67) d_322_59 rfl hf (fun hf => ?_) (fun hf => ?_)
    · refine P_iload d_322_67 rfl ?_
      refine A_istore d_322_69 ml_322 rfl rfl ?_
      refine A_iinc d_322_71 ic_1 rfl ml_322 rfl rfl ?_
      refine P_goto (tgt := 34) d_322_74 rfl ?_
      exact hrec _ _ _ hW  hf
    · refine P_iload d_322_62 rfl ?_
      refine P_goto (tgt := 69) d_322_64 rfl ?_
      refine A_istore d_322_69 ml_322 rfl rfl ?_
      refine A_iinc d_322_71 ic_1 rfl ml_322 rfl rfl ?_
      refine P_goto (tgt := 34) d_322_74 rfl ?_
      exact hrec _ _ _ hW  hf
theorem t_Mo_ask_l34 {G : GT} {d : Nat} {v1 : Int32} {v2 : Int32} {v3 : Int32} {Q : AM → Option Value → Prop} {yo : Int32} {Mo : AM} (k1 : WT Mo → PW G (d + 4) 322 77 [.ref 105, .int v1, .int v2, .int v3, .int yo, ux] [] Mo 0 0 Q)  : ∀ (z : Nat) (v4 : Int32) (v5 : Int32) (M : AM), WT M → f_Mo_ask_l34 v1 v2 v3 z v4 v5 M = some (yo, Mo) → PW G (d + 4) 322 34 [.ref 105, .int v1, .int v2, .int v3, .int v4, .int v5] [] M 0 0 Q := by
  intro z
  induction z with
  | zero => intro v4 v5 M hW hf; cases hf
  | succ z ih => intro v4 v5 M hW hf; exact t_Mo_ask_b34 (fun v4 v5 M hW hf => ih v4 v5 M hW hf) k1 hW   hf
def f_Mo_ask (a1 : Int32) (a2 : Int32) (M : AM) : Option (Int32 × AM) :=
  bnd (f_Mo_fits a2 M) (fun r1 M2 => bnd (f_Mo_isIn a1 0 1 M2) (fun r3 M4 => if r3 = 0 then some ((-1), M4) else if r1 = 0 then some ((-1), M4) else if (gI M4 105 41) = 0 then some ((-1), M4) else bnd (f_Mo_ask_l34 a1 a2 r1 fu 0 1 M4) (fun y5 M6 => if a1 = 0 then some (y5, M6) else bnd (f_Mo_leftBy y5 r1 a2 M6) (fun r7 M8 => some (r7, M8)))))
set_option maxRecDepth 20000 in
theorem t_Mo_ask {G : GT} {d : Nat} {a1 : Int32} {a2 : Int32} {M : AM} {Q : AM → Option Value → Prop} {r : Int32} {M' : AM} (hW : WT M)  (hf : f_Mo_ask a1 a2 M = some (r, M')) (k : WT M' → Q M' (some (.int r)))  : Cal G (d + 4) 322 [.ref 105, .int a1, .int a2] M Q := by
  refine A_enter ml_322 rfl ?_
  refine P_aload_n d_322_0 rfl ?_
  refine P_iload_n d_322_1 rfl ?_
  refine A_V1 d_322_2 vk_322_492 ml_318 rfl k_105 hW rfl hf (fun r1 M2 hc hf => t_Mo_fits hW  hc (fun hW => ?_))
  refine A_istore_n d_322_5 ml_322 rfl rfl ?_
  refine P_iload_n d_322_6 rfl ?_
  refine A_iconst d_322_7 ic_0 ?_
  refine A_iconst d_322_8 ic_1 ?_
  refine A_S3 d_322_9 sk_322_399 ml_243 rfl rfl hf (fun r3 M4 hc hf => t_Mo_isIn hW  hc (fun hW hb4 => ?_))
  refine A_if_eq (tgt := 26) d_322_12 rfl hf (fun hf => ?_) (fun hf => ?_)
  · refine A_iconst d_322_26 ic_m1 ?_
    exact A_iret d_322_27 mr_322 hW hf k
  · refine P_iload_n d_322_15 rfl ?_
    refine A_if_eq (tgt := 26) d_322_16 rfl hf (fun hf => ?_) (fun hf => ?_)
    · refine A_iconst d_322_26 ic_m1 ?_
      exact A_iret d_322_27 mr_322 hW hf k
    · refine P_aload_n d_322_19 rfl ?_
      refine A_gI d_322_20 cn_322 fk_CordLoftModel_303 k_105 hW ?_
      refine A_if_ne (tgt := 28) d_322_23 rfl hf (fun hf => ?_) (fun hf => ?_)
      · refine A_iconst d_322_28 ic_0 ?_
        refine A_istore d_322_29 ml_322 rfl rfl ?_
        refine A_iconst d_322_31 ic_1 ?_
        refine A_istore d_322_32 ml_322 rfl rfl ?_
        obtain ⟨y5, M6, hl, hf⟩ := bnd_some hf
        refine t_Mo_ask_l34 (fun hW => ?_)  fu _ _ _ hW  hl
        refine P_iload_n d_322_77 rfl ?_
        refine A_if_ne (tgt := 86) d_322_78 rfl hf (fun hf => ?_) (fun hf => ?_)
        · refine P_aload_n d_322_86 rfl ?_
          refine P_iload d_322_87 rfl ?_
          refine P_iload_n d_322_89 rfl ?_
          refine P_iload_n d_322_90 rfl ?_
          refine A_V3 d_322_91 vk_322_498 ml_323 rfl k_105 hW rfl hf (fun r7 M8 hc hf => t_Mo_leftBy hW  hc (fun hW => ?_))
          exact A_iret d_322_94 mr_322 hW hf k
        · refine P_iload d_322_81 rfl ?_
          refine P_goto (tgt := 94) d_322_83 rfl ?_
          exact A_iret d_322_94 mr_322 hW hf k
      · refine A_iconst d_322_26 ic_m1 ?_
        exact A_iret d_322_27 mr_322 hW hf k
def f_Mo_isBox (a0 : Int32) (M : AM) : Option (Int32 × AM) :=
  if a0 < 0 then some (0, M) else if 3 ≤ a0 then some (0, M) else some (1, M)
set_option maxRecDepth 20000 in
theorem t_Mo_isBox {G : GT} {d : Nat} {a0 : Int32} {M : AM} {Q : AM → Option Value → Prop} {r : Int32} {M' : AM} (hW : WT M)  (hf : f_Mo_isBox a0 M = some (r, M')) (k : WT M' → (r = 0 ∨ r = 1) → Q M' (some (.int r)))  : Cal G d 326 [.int a0] M Q := by
  refine A_enter ml_326 rfl ?_
  refine P_iload_n d_326_0 rfl ?_
  refine A_if_lt (tgt := 13) d_326_1 rfl hf (fun hf => ?_) (fun hf => ?_)
  · refine A_iconst d_326_13 ic_0 ?_
    exact A_zret d_326_14 mr_326 hW (Or.inl rfl) hf k
  · refine P_iload_n d_326_4 rfl ?_
    refine A_iconst d_326_5 ic_3 ?_
    refine A_icmp_ge (tgt := 13) d_326_6 rfl hf (fun hf => ?_) (fun hf => ?_)
    · refine A_iconst d_326_13 ic_0 ?_
      exact A_zret d_326_14 mr_326 hW (Or.inl rfl) hf k
    · refine A_iconst d_326_9 ic_1 ?_
      refine P_goto (tgt := 14) d_326_10 rfl ?_
      exact A_zret d_326_14 mr_326 hW (Or.inr rfl) hf k
def f_Mo_image_b18 (rec : Int32 → AM → Option (Unit × AM)) (v1 : Int32) (v2 : Int32) (M : AM) : Option (Unit × AM) :=
  if 5 ≤ v2 then some ((), M) else ald 5 M 123 v2 (fun x1 => ast 15 M 137 ((5 * v1) + v2) x1 (fun M2 => rec (v2 + 1) M2))
def f_Mo_image_l18 (v1 : Int32) : Nat → Int32 → AM → Option (Unit × AM)
  | 0, _, _ => none
  | n + 1, v2, M => f_Mo_image_b18 (f_Mo_image_l18 v1 n) v1 v2 M
set_option maxRecDepth 20000 in
theorem t_Mo_image_b18 {G : GT} {d : Nat} {v1 : Int32} {v2 : Int32} {M : AM} {Q : AM → Option Value → Prop} {yo : Unit} {Mo : AM} {rec : Int32 → AM → Option (Unit × AM)} (hrec : ∀ (v2 : Int32) (M : AM), WT M → rec v2 M = some (yo, Mo) → PW G (d + 1) 325 18 [.ref 105, .int v1, .int v2] [] M 0 0 Q) (k1 : WT Mo → PW G (d + 1) 325 45 [.ref 105, ux, ux] [] Mo 0 0 Q) (hW : WT M)   (hf : f_Mo_image_b18 rec v1 v2 M = some (yo, Mo)) : PW G (d + 1) 325 18 [.ref 105, .int v1, .int v2] [] M 0 0 Q := by
  refine P_iload_n d_325_18 rfl ?_
  refine A_iconst d_325_19 ic_5 ?_
  refine A_icmp_ge (tgt := 45) d_325_20 rfl hf (fun hf => ?_) (fun hf => ?_)
  · refine P_fgt [true, false, false] ?_
    cases hf
    exact k1 hW 
  · refine P_aload_n d_325_23 rfl ?_
    refine A_gF d_325_24 cn_325 fk_CordLoftModel_109 ft_13_70 k_105 hW ?_
    refine A_iconst d_325_27 ic_5 ?_
    refine P_iload_n d_325_28 rfl ?_
    refine P_imul d_325_29 ?_
    refine P_iload_n d_325_30 rfl ?_
    refine P_iadd d_325_31 ?_
    refine P_aload_n d_325_32 rfl ?_
    refine A_gF d_325_33 cn_325 fk_CordLoftModel_66 ft_13_50 k_105 hW ?_
    refine P_iload_n d_325_36 rfl ?_
    refine A_iald d_325_37 k_123 l_123 hW hf (fun hf => ?_)
    refine A_iast d_325_38 k_137 l_137 hW hf (fun hW hf => ?_)
    refine A_iinc d_325_39 ic_1 rfl ml_325 rfl rfl ?_
    refine P_goto (tgt := 18) d_325_42 rfl ?_
    exact hrec _ _ hW  hf
theorem t_Mo_image_l18 {G : GT} {d : Nat} {v1 : Int32} {Q : AM → Option Value → Prop} {yo : Unit} {Mo : AM} (k1 : WT Mo → PW G (d + 1) 325 45 [.ref 105, ux, ux] [] Mo 0 0 Q)  : ∀ (z : Nat) (v2 : Int32) (M : AM), WT M → f_Mo_image_l18 v1 z v2 M = some (yo, Mo) → PW G (d + 1) 325 18 [.ref 105, .int v1, .int v2] [] M 0 0 Q := by
  intro z
  induction z with
  | zero => intro v2 M hW hf; cases hf
  | succ z ih => intro v2 M hW hf; exact t_Mo_image_b18 (fun v2 M hW hf => ih v2 M hW hf) k1 hW   hf
def f_Mo_image (a1 : Int32) (M : AM) : Option (Int32 × AM) :=
  bnd (f_Mo_isBox a1 M) (fun r1 M2 => if r1 = 0 then some ((-1), M2) else ast 3 M2 136 a1 1 (fun M3 => bnd (f_Mo_image_l18 a1 fu 0 M3) (fun y4 M5 => ald 5 M5 123 0 (fun x6 => some (x6, M5)))))
set_option maxRecDepth 20000 in
theorem t_Mo_image {G : GT} {d : Nat} {a1 : Int32} {M : AM} {Q : AM → Option Value → Prop} {r : Int32} {M' : AM} (hW : WT M)  (hf : f_Mo_image a1 M = some (r, M')) (k : WT M' → Q M' (some (.int r)))  : Cal G (d + 1) 325 [.ref 105, .int a1] M Q := by
  refine A_enter ml_325 rfl ?_
  refine P_iload_n d_325_0 rfl ?_
  refine A_S1 d_325_1 sk_325_501 ml_326 rfl rfl hf (fun r1 M2 hc hf => t_Mo_isBox hW  hc (fun hW hb2 => ?_))
  refine A_if_ne (tgt := 9) d_325_4 rfl hf (fun hf => ?_) (fun hf => ?_)
  · refine P_aload_n d_325_9 rfl ?_
    refine A_gF d_325_10 cn_325 fk_CordLoftModel_106 ft_13_69 k_105 hW ?_
    refine P_iload_n d_325_13 rfl ?_
    refine A_iconst d_325_14 ic_1 ?_
    refine A_zast d_325_15 k_136 l_136 hW (Or.inr rfl) hf (fun hW hf => ?_)
    refine A_iconst d_325_16 ic_0 ?_
    refine A_istore_n d_325_17 ml_325 rfl rfl ?_
    obtain ⟨y4, M5, hl, hf⟩ := bnd_some hf
    refine t_Mo_image_l18 (fun hW => ?_)  fu _ _ hW  hl
    refine P_aload_n d_325_45 rfl ?_
    refine A_gF d_325_46 cn_325 fk_CordLoftModel_66 ft_13_50 k_105 hW ?_
    refine A_iconst d_325_49 ic_0 ?_
    refine A_iald d_325_50 k_123 l_123 hW hf (fun hf => ?_)
    exact A_iret d_325_51 mr_325 hW hf k
  · refine A_iconst d_325_7 ic_m1 ?_
    exact A_iret d_325_8 mr_325 hW hf k
def f_Mo_back_b20 (rec : Int32 → AM → Option (Unit × AM)) (v1 : Int32) (v2 : Int32) (M : AM) : Option (Unit × AM) :=
  if 5 ≤ v2 then some ((), M) else ald 15 M 137 ((5 * v1) + v2) (fun x1 => ast 5 M 123 v2 x1 (fun M2 => rec (v2 + 1) M2))
def f_Mo_back_l20 (v1 : Int32) : Nat → Int32 → AM → Option (Unit × AM)
  | 0, _, _ => none
  | n + 1, v2, M => f_Mo_back_b20 (f_Mo_back_l20 v1 n) v1 v2 M
set_option maxRecDepth 20000 in
theorem t_Mo_back_b20 {G : GT} {d : Nat} {v1 : Int32} {v2 : Int32} {M : AM} {Q : AM → Option Value → Prop} {yo : Unit} {Mo : AM} {rec : Int32 → AM → Option (Unit × AM)} (hrec : ∀ (v2 : Int32) (M : AM), WT M → rec v2 M = some (yo, Mo) → PW G (d + 1) 327 20 [.ref 105, .int v1, .int v2] [] M 0 0 Q) (k1 : WT Mo → PW G (d + 1) 327 47 [.ref 105, ux, ux] [] Mo 0 0 Q) (hW : WT M)   (hf : f_Mo_back_b20 rec v1 v2 M = some (yo, Mo)) : PW G (d + 1) 327 20 [.ref 105, .int v1, .int v2] [] M 0 0 Q := by
  refine P_iload_n d_327_20 rfl ?_
  refine A_iconst d_327_21 ic_5 ?_
  refine A_icmp_ge (tgt := 47) d_327_22 rfl hf (fun hf => ?_) (fun hf => ?_)
  · refine P_fgt [true, false, false] ?_
    cases hf
    exact k1 hW 
  · refine P_aload_n d_327_25 rfl ?_
    refine A_gF d_327_26 cn_327 fk_CordLoftModel_66 ft_13_50 k_105 hW ?_
    refine P_iload_n d_327_29 rfl ?_
    refine P_aload_n d_327_30 rfl ?_
    refine A_gF d_327_31 cn_327 fk_CordLoftModel_109 ft_13_70 k_105 hW ?_
    refine A_iconst d_327_34 ic_5 ?_
    refine P_iload_n d_327_35 rfl ?_
    refine P_imul d_327_36 ?_
    refine P_iload_n d_327_37 rfl ?_
    refine P_iadd d_327_38 ?_
    refine A_iald d_327_39 k_137 l_137 hW hf (fun hf => ?_)
    refine A_iast d_327_40 k_123 l_123 hW hf (fun hW hf => ?_)
    refine A_iinc d_327_41 ic_1 rfl ml_327 rfl rfl ?_
    refine P_goto (tgt := 20) d_327_44 rfl ?_
    exact hrec _ _ hW  hf
theorem t_Mo_back_l20 {G : GT} {d : Nat} {v1 : Int32} {Q : AM → Option Value → Prop} {yo : Unit} {Mo : AM} (k1 : WT Mo → PW G (d + 1) 327 47 [.ref 105, ux, ux] [] Mo 0 0 Q)  : ∀ (z : Nat) (v2 : Int32) (M : AM), WT M → f_Mo_back_l20 v1 z v2 M = some (yo, Mo) → PW G (d + 1) 327 20 [.ref 105, .int v1, .int v2] [] M 0 0 Q := by
  intro z
  induction z with
  | zero => intro v2 M hW hf; cases hf
  | succ z ih => intro v2 M hW hf; exact t_Mo_back_b20 (fun v2 M hW hf => ih v2 M hW hf) k1 hW   hf
def f_Mo_back (a1 : Int32) (M : AM) : Option (Int32 × AM) :=
  bnd (f_Mo_isBox a1 M) (fun r1 M2 => if r1 = 0 then some ((-1), M2) else ald 3 M2 136 a1 (fun x3 => if x3 = 0 then some ((-1), M2) else bnd (f_Mo_back_l20 a1 fu 0 M2) (fun y4 M5 => wI M5 105 52 0 (fun M6 => wI M6 105 53 0 (fun M7 => ald 5 M7 123 0 (fun x8 => some (x8, M7)))))))
set_option maxRecDepth 20000 in
theorem t_Mo_back {G : GT} {d : Nat} {a1 : Int32} {M : AM} {Q : AM → Option Value → Prop} {r : Int32} {M' : AM} (hW : WT M)  (hf : f_Mo_back a1 M = some (r, M')) (k : WT M' → Q M' (some (.int r)))  : Cal G (d + 1) 327 [.ref 105, .int a1] M Q := by
  refine A_enter ml_327 rfl ?_
  refine P_iload_n d_327_0 rfl ?_
  refine A_S1 d_327_1 sk_327_501 ml_326 rfl rfl hf (fun r1 M2 hc hf => t_Mo_isBox hW  hc (fun hW hb2 => ?_))
  refine A_if_eq (tgt := 16) d_327_4 rfl hf (fun hf => ?_) (fun hf => ?_)
  · refine A_iconst d_327_16 ic_m1 ?_
    exact A_iret d_327_17 mr_327 hW hf k
  · refine P_aload_n d_327_7 rfl ?_
    refine A_gF d_327_8 cn_327 fk_CordLoftModel_106 ft_13_69 k_105 hW ?_
    refine P_iload_n d_327_11 rfl ?_
    refine A_zald d_327_12 k_136 l_136 hW hf (fun hf => ?_)
    refine A_if_ne (tgt := 18) d_327_13 rfl hf (fun hf => ?_) (fun hf => ?_)
    · refine A_iconst d_327_18 ic_0 ?_
      refine A_istore_n d_327_19 ml_327 rfl rfl ?_
      obtain ⟨y4, M5, hl, hf⟩ := bnd_some hf
      refine t_Mo_back_l20 (fun hW => ?_)  fu _ _ hW  hl
      refine P_aload_n d_327_47 rfl ?_
      refine A_iconst d_327_48 ic_0 ?_
      refine A_pI d_327_49 cn_327 fp_CordLoftModel_387 k_105 hW hf (fun hW hf => ?_)
      refine P_aload_n d_327_52 rfl ?_
      refine A_iconst d_327_53 ic_0 ?_
      refine A_pI d_327_54 cn_327 fp_CordLoftModel_390 k_105 hW hf (fun hW hf => ?_)
      refine P_aload_n d_327_57 rfl ?_
      refine A_gF d_327_58 cn_327 fk_CordLoftModel_66 ft_13_50 k_105 hW ?_
      refine A_iconst d_327_61 ic_0 ?_
      refine A_iald d_327_62 k_123 l_123 hW hf (fun hf => ?_)
      exact A_iret d_327_63 mr_327 hW hf k
    · refine A_iconst d_327_16 ic_m1 ?_
      exact A_iret d_327_17 mr_327 hW hf k
def f_Mo_about (a1 : Int32) (M : AM) : Option (Int32 × AM) :=
  swi a1 [(0, some (gI M 105 41, M)), (1, some (gI M 105 42, M)), (2, ald 5 M 123 1 (fun x1 => some (x1, M))), (3, ald 5 M 123 2 (fun x2 => some (x2, M))), (4, ald 5 M 123 3 (fun x3 => some (x3, M))), (5, ald 5 M 123 4 (fun x4 => some (x4, M))), (6, some (gI M 105 52, M)), (7, some (gI M 105 53, M)), (8, some (gI M 105 67, M)), (9, some (gI M 105 68, M)), (10, some (gI M 105 1, M)), (11, some (gI M 105 21, M)), (12, some (gI M 105 59, M)), (13, some (gI M 105 44, M)), (14, some (gI M 105 45, M))] (some ((-1), M))
set_option maxRecDepth 20000 in
theorem t_Mo_about {G : GT} {d : Nat} {a1 : Int32} {M : AM} {Q : AM → Option Value → Prop} {r : Int32} {M' : AM} (hW : WT M)  (hf : f_Mo_about a1 M = some (r, M')) (k : WT M' → Q M' (some (.int r)))  : Cal G d 328 [.ref 105, .int a1] M Q := by
  refine A_enter ml_328 rfl ?_
  refine P_iload_n d_328_0 rfl ?_
  refine A_tsw [0, 1, 2, 3, 4, 5, 6, 7, 8, 9, 10, 11, 12, 13, 14] [76, 81, 86, 93, 100, 107, 114, 119, 124, 129, 134, 139, 144, 149, 154] 159 d_328_1 rfl (by decide +kernel) hf (fun i A t h1 h2 hf => ?_) (fun hf => ?_)
  · match i, h1, h2 with
    | 0, h1, h2 =>
      have h3 := (Prod.mk.inj (Option.some.inj h1)).2
      have h4 := Option.some.inj h2
      subst h3; subst h4; clear h1 h2
      refine P_aload_n d_328_76 rfl ?_
      refine A_gI d_328_77 cn_328 fk_CordLoftModel_303 k_105 hW ?_
      exact A_iret d_328_80 mr_328 hW hf k
    | 1, h1, h2 =>
      have h3 := (Prod.mk.inj (Option.some.inj h1)).2
      have h4 := Option.some.inj h2
      subst h3; subst h4; clear h1 h2
      refine P_aload_n d_328_81 rfl ?_
      refine A_gI d_328_82 cn_328 fk_CordLoftModel_369 k_105 hW ?_
      exact A_iret d_328_85 mr_328 hW hf k
    | 2, h1, h2 =>
      have h3 := (Prod.mk.inj (Option.some.inj h1)).2
      have h4 := Option.some.inj h2
      subst h3; subst h4; clear h1 h2
      refine P_aload_n d_328_86 rfl ?_
      refine A_gF d_328_87 cn_328 fk_CordLoftModel_66 ft_13_50 k_105 hW ?_
      refine A_iconst d_328_90 ic_1 ?_
      refine A_iald d_328_91 k_123 l_123 hW hf (fun hf => ?_)
      exact A_iret d_328_92 mr_328 hW hf k
    | 3, h1, h2 =>
      have h3 := (Prod.mk.inj (Option.some.inj h1)).2
      have h4 := Option.some.inj h2
      subst h3; subst h4; clear h1 h2
      refine P_aload_n d_328_93 rfl ?_
      refine A_gF d_328_94 cn_328 fk_CordLoftModel_66 ft_13_50 k_105 hW ?_
      refine A_iconst d_328_97 ic_2 ?_
      refine A_iald d_328_98 k_123 l_123 hW hf (fun hf => ?_)
      exact A_iret d_328_99 mr_328 hW hf k
    | 4, h1, h2 =>
      have h3 := (Prod.mk.inj (Option.some.inj h1)).2
      have h4 := Option.some.inj h2
      subst h3; subst h4; clear h1 h2
      refine P_aload_n d_328_100 rfl ?_
      refine A_gF d_328_101 cn_328 fk_CordLoftModel_66 ft_13_50 k_105 hW ?_
      refine A_iconst d_328_104 ic_3 ?_
      refine A_iald d_328_105 k_123 l_123 hW hf (fun hf => ?_)
      exact A_iret d_328_106 mr_328 hW hf k
    | 5, h1, h2 =>
      have h3 := (Prod.mk.inj (Option.some.inj h1)).2
      have h4 := Option.some.inj h2
      subst h3; subst h4; clear h1 h2
      refine P_aload_n d_328_107 rfl ?_
      refine A_gF d_328_108 cn_328 fk_CordLoftModel_66 ft_13_50 k_105 hW ?_
      refine A_iconst d_328_111 ic_4 ?_
      refine A_iald d_328_112 k_123 l_123 hW hf (fun hf => ?_)
      exact A_iret d_328_113 mr_328 hW hf k
    | 6, h1, h2 =>
      have h3 := (Prod.mk.inj (Option.some.inj h1)).2
      have h4 := Option.some.inj h2
      subst h3; subst h4; clear h1 h2
      refine P_aload_n d_328_114 rfl ?_
      refine A_gI d_328_115 cn_328 fk_CordLoftModel_387 k_105 hW ?_
      exact A_iret d_328_118 mr_328 hW hf k
    | 7, h1, h2 =>
      have h3 := (Prod.mk.inj (Option.some.inj h1)).2
      have h4 := Option.some.inj h2
      subst h3; subst h4; clear h1 h2
      refine P_aload_n d_328_119 rfl ?_
      refine A_gI d_328_120 cn_328 fk_CordLoftModel_390 k_105 hW ?_
      exact A_iret d_328_123 mr_328 hW hf k
    | 8, h1, h2 =>
      have h3 := (Prod.mk.inj (Option.some.inj h1)).2
      have h4 := Option.some.inj h2
      subst h3; subst h4; clear h1 h2
      refine P_aload_n d_328_124 rfl ?_
      refine A_gI d_328_125 cn_328 fk_CordLoftModel_393 k_105 hW ?_
      exact A_iret d_328_128 mr_328 hW hf k
    | 9, h1, h2 =>
      have h3 := (Prod.mk.inj (Option.some.inj h1)).2
      have h4 := Option.some.inj h2
      subst h3; subst h4; clear h1 h2
      refine P_aload_n d_328_129 rfl ?_
      refine A_gI d_328_130 cn_328 fk_CordLoftModel_485 k_105 hW ?_
      exact A_iret d_328_133 mr_328 hW hf k
    | 10, h1, h2 =>
      have h3 := (Prod.mk.inj (Option.some.inj h1)).2
      have h4 := Option.some.inj h2
      subst h3; subst h4; clear h1 h2
      refine P_aload_n d_328_134 rfl ?_
      refine A_gI d_328_135 cn_328 fk_CordLoftModel_112 k_105 hW ?_
      exact A_iret d_328_138 mr_328 hW hf k
    | 11, h1, h2 =>
      have h3 := (Prod.mk.inj (Option.some.inj h1)).2
      have h4 := Option.some.inj h2
      subst h3; subst h4; clear h1 h2
      refine P_aload_n d_328_139 rfl ?_
      refine A_gI d_328_140 cn_328 fk_CordLoftModel_384 k_105 hW ?_
      exact A_iret d_328_143 mr_328 hW hf k
    | 12, h1, h2 =>
      have h3 := (Prod.mk.inj (Option.some.inj h1)).2
      have h4 := Option.some.inj h2
      subst h3; subst h4; clear h1 h2
      refine P_aload_n d_328_144 rfl ?_
      refine A_gI d_328_145 cn_328 fk_CordLoftModel_396 k_105 hW ?_
      exact A_iret d_328_148 mr_328 hW hf k
    | 13, h1, h2 =>
      have h3 := (Prod.mk.inj (Option.some.inj h1)).2
      have h4 := Option.some.inj h2
      subst h3; subst h4; clear h1 h2
      refine P_aload_n d_328_149 rfl ?_
      refine A_gI d_328_150 cn_328 fk_CordLoftModel_375 k_105 hW ?_
      exact A_iret d_328_153 mr_328 hW hf k
    | 14, h1, h2 =>
      have h3 := (Prod.mk.inj (Option.some.inj h1)).2
      have h4 := Option.some.inj h2
      subst h3; subst h4; clear h1 h2
      refine P_aload_n d_328_154 rfl ?_
      refine A_gI d_328_155 cn_328 fk_CordLoftModel_378 k_105 hW ?_
      exact A_iret d_328_158 mr_328 hW hf k
    | i + 15, h1, h2 => exact absurd h2 (by simp)
  · refine A_iconst d_328_159 ic_m1 ?_
    exact A_iret d_328_160 mr_328 hW hf k
end
