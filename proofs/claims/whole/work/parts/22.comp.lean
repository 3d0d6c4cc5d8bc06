noncomputable section
def f_C_loft  (M : AM) : Option (Int32 × AM) :=
  bnd (f_Tokens_scan  M) (fun r1 M2 => wI M2 1 1 0 (fun M3 => ckK (gR M3 0 4) 5 (bnd (f_Reader_read (gR M3 0 4) M3) (fun r5 M6 => wI M6 0 13 (gI M6 7 4) (fun M7 => wI M7 0 14 (gI M7 7 5) (fun M8 => if r5 = 0 then some ((-1), M8) else ckK (gR M8 0 3) 5 (ckK (gR M8 0 4) 5 (wR M8 0 3 (gR M8 0 4) (fun M11 => wR M11 0 4 (gR M8 0 3) (fun M12 => bnd (f_Acts_current  M12) (fun r13 M14 => ckK (gR M14 0 3) 5 (bnd (f_State_begin r13 (gR M14 0 3) M14) (fun r16 M17 => bnd (f_Acts_forget  M17) (fun r18 M19 => bnd (f_Sight_forget  M19) (fun r20 M21 => bnd (f_Paths_clearRow  M21) (fun r22 M23 => wI M23 0 8 0 (fun M24 => ckK (gR M24 0 3) 5 (some (gI M24 (gR M24 0 3) 0, M24)))))))))))))))))))
set_option maxRecDepth 20000 in
theorem t_C_loft {G : GT} {d : Nat}  {M : AM} {Q : AM → Option Value → Prop} {r : Int32} {M' : AM} (hW : WT M)  (hf : f_C_loft  M = some (r, M')) (k : WT M' → Q M' (some (.int r)))  : Cal G (d + 107) 16 [.ref 0] M Q := by
  refine A_enter ml_16 rfl ?_
  refine P_aload_n d_16_0 rfl ?_
  refine A_gF d_16_1 cn_16 fk_CordLoft_19 ft_12_1 k_0 hW ?_
  refine P_aload_n d_16_4 rfl ?_
  refine A_gF d_16_5 cn_16 fk_CordLoft_10 ft_12_0 k_0 hW ?_
  refine A_V1 d_16_8 vk_16_102 ml_17 rfl k_3 hW rfl hf (fun r1 M2 hc hf => t_Tokens_scan hW  hc (fun hW => ?_))
  refine P_aload_n d_16_11 rfl ?_
  refine A_gF d_16_12 cn_16 fk_CordLoft_10 ft_12_0 k_0 hW ?_
  refine A_iconst d_16_15 ic_0 ?_
  refine A_pI d_16_16 cn_16 fp_CordLoft_95 k_1 hW hf (fun hW hf => ?_)
  refine P_aload_n d_16_19 rfl ?_
  refine A_gF d_16_20 cn_16 fk_CordLoft_28 ft_12_2 k_0 hW ?_
  refine P_aload_n d_16_23 rfl ?_
  refine A_gM d_16_24 cn_16 fk_CordLoft_39 k_0 hW hf (fun hk4 hf => ?_)
  refine A_V1 d_16_27 vk_16_106 ml_55 rfl k_7 hW rfl hf (fun r5 M6 hc hf => t_Reader_read hW hk4 hc (fun hW hb6 => ?_))
  refine A_istore_n d_16_30 ml_16 rfl rfl ?_
  refine P_aload_n d_16_31 rfl ?_
  refine P_aload_n d_16_32 rfl ?_
  refine A_gF d_16_33 cn_16 fk_CordLoft_28 ft_12_2 k_0 hW ?_
  refine A_gI d_16_36 cn_16 fk_CordLoft_110 k_7 hW ?_
  refine A_pI d_16_39 cn_16 fp_CordLoft_89 k_0 hW hf (fun hW hf => ?_)
  refine P_aload_n d_16_42 rfl ?_
  refine P_aload_n d_16_43 rfl ?_
  refine A_gF d_16_44 cn_16 fk_CordLoft_28 ft_12_2 k_0 hW ?_
  refine A_gI d_16_47 cn_16 fk_CordLoft_113 k_7 hW ?_
  refine A_pI d_16_50 cn_16 fp_CordLoft_92 k_0 hW hf (fun hW hf => ?_)
  refine P_iload_n d_16_53 rfl ?_
  refine A_if_ne (tgt := 59) d_16_54 rfl hf (fun hf => ?_) (fun hf => ?_)
  · refine P_aload_n d_16_59 rfl ?_
    refine A_gM d_16_60 cn_16 fk_CordLoft_35 k_0 hW hf (fun hk9 hf => ?_)
    refine A_astore_n d_16_63 ml_16 rfl rfl ?_
    refine P_aload_n d_16_64 rfl ?_
    refine P_aload_n d_16_65 rfl ?_
    refine A_gM d_16_66 cn_16 fk_CordLoft_39 k_0 hW hf (fun hk10 hf => ?_)
    refine A_pR d_16_69 cn_16 fp_CordLoft_35 k_0 hW hf (fun hW hf => ?_)
    refine P_aload_n d_16_72 rfl ?_
    refine P_aload_n d_16_73 rfl ?_
    refine A_pR d_16_74 cn_16 fp_CordLoft_39 k_0 hW hf (fun hW hf => ?_)
    refine P_aload_n d_16_77 rfl ?_
    refine A_gF d_16_78 cn_16 fk_CordLoft_45 ft_12_5 k_0 hW ?_
    refine A_V0 d_16_81 vk_16_114 ml_78 rfl k_38 hW rfl hf (fun r13 M14 hc hf => t_Acts_current hW  hc (fun hW hb14 => ?_))
    refine P_aload_n d_16_84 rfl ?_
    refine A_gM d_16_85 cn_16 fk_CordLoft_35 k_0 hW hf (fun hk15 hf => ?_)
    refine A_V1 d_16_88 vk_16_118 ml_79 rfl hb14 hW rfl hf (fun r16 M17 hc hf => t_State_begin hW hb14 hk15 hc (fun hW => ?_))
    refine P_aload_n d_16_91 rfl ?_
    refine A_gF d_16_92 cn_16 fk_CordLoft_45 ft_12_5 k_0 hW ?_
    refine A_V0 d_16_95 vk_16_122 ml_80 rfl k_38 hW rfl hf (fun r18 M19 hc hf => t_Acts_forget hW  hc (fun hW => ?_))
    refine P_aload_n d_16_98 rfl ?_
    refine A_gF d_16_99 cn_16 fk_CordLoft_81 ft_12_11 k_0 hW ?_
    refine A_V0 d_16_102 vk_16_125 ml_81 rfl k_99 hW rfl hf (fun r20 M21 hc hf => t_Sight_forget hW  hc (fun hW => ?_))
    refine P_aload_n d_16_105 rfl ?_
    refine A_gF d_16_106 cn_16 fk_CordLoft_74 ft_12_10 k_0 hW ?_
    refine A_V0 d_16_109 vk_16_126 ml_82 rfl k_92 hW rfl hf (fun r22 M23 hc hf => t_Paths_clearRow hW  hc (fun hW => ?_))
    refine P_aload_n d_16_112 rfl ?_
    refine A_iconst d_16_113 ic_0 ?_
    refine A_pI d_16_114 cn_16 fp_CordLoft_60 k_0 hW hf (fun hW hf => ?_)
    refine P_aload_n d_16_117 rfl ?_
    refine A_gM d_16_118 cn_16 fk_CordLoft_35 k_0 hW hf (fun hk25 hf => ?_)
    refine A_gI d_16_121 cn_16 fk_CordLoft_129 hk25 hW ?_
    exact A_iret d_16_124 mr_16 hW hf k
  · refine A_iconst d_16_57 ic_m1 ?_
    exact A_iret d_16_58 mr_16 hW hf k
def f_C_either (a0 : Int32) (a1 : Int32) (a2 : Int32) (M : AM) : Option (Int32 × AM) :=
  if a0 = 0 then some (a1, M) else if a0 = 1 then some (a2, M) else some ((-1), M)
set_option maxRecDepth 20000 in
theorem t_C_either {G : GT} {d : Nat} {a0 : Int32} {a1 : Int32} {a2 : Int32} {M : AM} {Q : AM → Option Value → Prop} {r : Int32} {M' : AM} (hW : WT M)  (hf : f_C_either a0 a1 a2 M = some (r, M')) (k : WT M' → Q M' (some (.int r)))  : Cal G d 84 [.int a0, .int a1, .int a2] M Q := by
  refine A_enter ml_84 rfl ?_
  refine P_iload_n d_84_0 rfl ?_
  refine A_if_ne (tgt := 6) d_84_1 rfl hf (fun hf => ?_) (fun hf => ?_)
  · refine P_iload_n d_84_6 rfl ?_
    refine A_iconst d_84_7 ic_1 ?_
    refine A_icmp_ne (tgt := 15) d_84_8 rfl hf (fun hf => ?_) (fun hf => ?_)
    · refine A_iconst d_84_15 ic_m1 ?_
      exact A_iret d_84_16 mr_84 hW hf k
    · refine P_iload_n d_84_11 rfl ?_
      refine P_goto (tgt := 16) d_84_12 rfl ?_
      exact A_iret d_84_16 mr_84 hW hf k
  · refine P_iload_n d_84_4 rfl ?_
    exact A_iret d_84_5 mr_84 hW hf k
def f_C_fault (a1 : Int32) (M : AM) : Option (Int32 × AM) :=
  bnd (f_C_either a1 (gI M 0 13) (gI M 0 14) M) (fun r1 M2 => some (r1, M2))
set_option maxRecDepth 20000 in
theorem t_C_fault {G : GT} {d : Nat} {a1 : Int32} {M : AM} {Q : AM → Option Value → Prop} {r : Int32} {M' : AM} (hW : WT M)  (hf : f_C_fault a1 M = some (r, M')) (k : WT M' → Q M' (some (.int r)))  : Cal G (d + 1) 83 [.ref 0, .int a1] M Q := by
  refine A_enter ml_83 rfl ?_
  refine P_iload_n d_83_0 rfl ?_
  refine P_aload_n d_83_1 rfl ?_
  refine A_gI d_83_2 cn_83 fk_CordLoft_89 k_0 hW ?_
  refine P_aload_n d_83_5 rfl ?_
  refine A_gI d_83_6 cn_83 fk_CordLoft_92 k_0 hW ?_
  refine A_S3 d_83_9 sk_83_132 ml_84 rfl rfl hf (fun r1 M2 hc hf => t_C_either hW  hc (fun hW => ?_))
  exact A_iret d_83_12 mr_83 hW hf k
def f_Plan_hasLamp (a0 : Nat) (a1 : Int32) (M : AM) : Option (Int32 × AM) :=
  if a1 < 0 then some (0, M) else if (gI M a0 0) ≤ a1 then some (0, M) else some (1, M)
set_option maxRecDepth 20000 in
theorem t_Plan_hasLamp {G : GT} {d : Nat} {a0 : Nat} {a1 : Int32} {M : AM} {Q : AM → Option Value → Prop} {r : Int32} {M' : AM} (hW : WT M) (ha0 : kd0 a0 = 5) (hf : f_Plan_hasLamp a0 a1 M = some (r, M')) (k : WT M' → (r = 0 ∨ r = 1) → Q M' (some (.int r)))  : Cal G d 86 [.ref a0, .int a1] M Q := by
  refine A_enter ml_86 rfl ?_
  refine P_iload_n d_86_0 rfl ?_
  refine A_if_lt (tgt := 16) d_86_1 rfl hf (fun hf => ?_) (fun hf => ?_)
  · refine A_iconst d_86_16 ic_0 ?_
    exact A_zret d_86_17 mr_86 hW (Or.inl rfl) hf k
  · refine P_iload_n d_86_4 rfl ?_
    refine P_aload_n d_86_5 rfl ?_
    refine A_gI d_86_6 cn_86 fk_CordLoft_Plan_51 ha0 hW ?_
    refine A_icmp_ge (tgt := 16) d_86_9 rfl hf (fun hf => ?_) (fun hf => ?_)
    · refine A_iconst d_86_16 ic_0 ?_
      exact A_zret d_86_17 mr_86 hW (Or.inl rfl) hf k
    · refine A_iconst d_86_12 ic_1 ?_
      refine P_goto (tgt := 17) d_86_13 rfl ?_
      exact A_zret d_86_17 mr_86 hW (Or.inr rfl) hf k
def f_C_lamp (a1 : Int32) (a2 : Int32) (M : AM) : Option (Int32 × AM) :=
  ckK (gR M 0 3) 5 (bnd (f_Plan_hasLamp (gR M 0 3) a1 M) (fun r2 M3 => if r2 = 0 then some ((-1), M3) else swi a2 [(0, bnd (f_Acts_current  M3) (fun r4 M5 => some (((gI M5 r4 0) >>> (a1 &&& 31)) &&& 1, M5))), (1, ckK (gR M3 0 3) 5 (ald 8 M3 ((gR M3 0 3) + 2) a1 (fun x7 => some (x7, M3)))), (2, ckK (gR M3 0 3) 5 (ald 8 M3 ((gR M3 0 3) + 3) a1 (fun x9 => some (x9, M3)))), (3, ckK (gR M3 0 3) 5 (ald 8 M3 ((gR M3 0 3) + 4) a1 (fun x11 => some (x11, M3))))] (some ((-1), M3))))
set_option maxRecDepth 20000 in
theorem t_C_lamp {G : GT} {d : Nat} {a1 : Int32} {a2 : Int32} {M : AM} {Q : AM → Option Value → Prop} {r : Int32} {M' : AM} (hW : WT M)  (hf : f_C_lamp a1 a2 M = some (r, M')) (k : WT M' → Q M' (some (.int r)))  : Cal G (d + 1) 85 [.ref 0, .int a1, .int a2] M Q := by
  refine A_enter ml_85 rfl ?_
  refine P_aload_n d_85_0 rfl ?_
  refine A_gM d_85_1 cn_85 fk_CordLoft_35 k_0 hW hf (fun hk1 hf => ?_)
  refine P_iload_n d_85_4 rfl ?_
  refine A_V1 d_85_5 vk_85_136 ml_86 rfl hk1 hW rfl hf (fun r2 M3 hc hf => t_Plan_hasLamp hW hk1 hc (fun hW hb3 => ?_))
  refine A_if_ne (tgt := 13) d_85_8 rfl hf (fun hf => ?_) (fun hf => ?_)
  · refine P_iload_n d_85_13 rfl ?_
    refine A_tsw [0, 1, 2, 3] [44, 59, 69, 79] 89 d_85_14 rfl (by decide +kernel) hf (fun i A t h1 h2 hf => ?_) (fun hf => ?_)
    · match i, h1, h2 with
      | 0, h1, h2 =>
        have h3 := (Prod.mk.inj (Option.some.inj h1)).2
        have h4 := Option.some.inj h2
        subst h3; subst h4; clear h1 h2
        refine P_aload_n d_85_44 rfl ?_
        refine A_gF d_85_45 cn_85 fk_CordLoft_45 ft_12_5 k_0 hW ?_
        refine A_V0 d_85_48 vk_85_114 ml_78 rfl k_38 hW rfl hf (fun r4 M5 hc hf => t_Acts_current hW  hc (fun hW hb5 => ?_))
        refine A_gI d_85_51 cn_85 fk_CordLoft_140 hb5 hW ?_
        refine P_iload_n d_85_54 rfl ?_
        refine P_ishr d_85_55 ?_
        refine A_iconst d_85_56 ic_1 ?_
        refine P_iand d_85_57 ?_
        exact A_iret d_85_58 mr_85 hW hf k
      | 1, h1, h2 =>
        have h3 := (Prod.mk.inj (Option.some.inj h1)).2
        have h4 := Option.some.inj h2
        subst h3; subst h4; clear h1 h2
        refine P_aload_n d_85_59 rfl ?_
        refine A_gM d_85_60 cn_85 fk_CordLoft_35 k_0 hW hf (fun hk6 hf => ?_)
        refine A_gFr d_85_63 cn_85 fk_CordLoft_143 ft_5_3 hk6 hW ?_
        refine P_iload_n d_85_66 rfl ?_
        refine A_iald d_85_67 (kr_5_2 hk6) (lr_5_2 hk6) hW hf (fun hf => ?_)
        exact A_iret d_85_68 mr_85 hW hf k
      | 2, h1, h2 =>
        have h3 := (Prod.mk.inj (Option.some.inj h1)).2
        have h4 := Option.some.inj h2
        subst h3; subst h4; clear h1 h2
        refine P_aload_n d_85_69 rfl ?_
        refine A_gM d_85_70 cn_85 fk_CordLoft_35 k_0 hW hf (fun hk8 hf => ?_)
        refine A_gFr d_85_73 cn_85 fk_CordLoft_146 ft_5_4 hk8 hW ?_
        refine P_iload_n d_85_76 rfl ?_
        refine A_iald d_85_77 (kr_5_3 hk8) (lr_5_3 hk8) hW hf (fun hf => ?_)
        exact A_iret d_85_78 mr_85 hW hf k
      | 3, h1, h2 =>
        have h3 := (Prod.mk.inj (Option.some.inj h1)).2
        have h4 := Option.some.inj h2
        subst h3; subst h4; clear h1 h2
        refine P_aload_n d_85_79 rfl ?_
        refine A_gM d_85_80 cn_85 fk_CordLoft_35 k_0 hW hf (fun hk10 hf => ?_)
        refine A_gFr d_85_83 cn_85 fk_CordLoft_149 ft_5_5 hk10 hW ?_
        refine P_iload_n d_85_86 rfl ?_
        refine A_iald d_85_87 (kr_5_4 hk10) (lr_5_4 hk10) hW hf (fun hf => ?_)
        exact A_iret d_85_88 mr_85 hW hf k
      | i + 4, h1, h2 => exact absurd h2 (by simp)
    · refine A_iconst d_85_89 ic_m1 ?_
      exact A_iret d_85_90 mr_85 hW hf k
  · refine A_iconst d_85_11 ic_m1 ?_
    exact A_iret d_85_12 mr_85 hW hf k
def f_Plan_hasCord (a0 : Nat) (a1 : Int32) (M : AM) : Option (Int32 × AM) :=
  if a1 < 0 then some (0, M) else if (gI M a0 6) ≤ a1 then some (0, M) else some (1, M)
set_option maxRecDepth 20000 in
theorem t_Plan_hasCord {G : GT} {d : Nat} {a0 : Nat} {a1 : Int32} {M : AM} {Q : AM → Option Value → Prop} {r : Int32} {M' : AM} (hW : WT M) (ha0 : kd0 a0 = 5) (hf : f_Plan_hasCord a0 a1 M = some (r, M')) (k : WT M' → (r = 0 ∨ r = 1) → Q M' (some (.int r)))  : Cal G d 88 [.ref a0, .int a1] M Q := by
  refine A_enter ml_88 rfl ?_
  refine P_iload_n d_88_0 rfl ?_
  refine A_if_lt (tgt := 16) d_88_1 rfl hf (fun hf => ?_) (fun hf => ?_)
  · refine A_iconst d_88_16 ic_0 ?_
    exact A_zret d_88_17 mr_88 hW (Or.inl rfl) hf k
  · refine P_iload_n d_88_4 rfl ?_
    refine P_aload_n d_88_5 rfl ?_
    refine A_gI d_88_6 cn_88 fk_CordLoft_Plan_58 ha0 hW ?_
    refine A_icmp_ge (tgt := 16) d_88_9 rfl hf (fun hf => ?_) (fun hf => ?_)
    · refine A_iconst d_88_16 ic_0 ?_
      exact A_zret d_88_17 mr_88 hW (Or.inl rfl) hf k
    · refine A_iconst d_88_12 ic_1 ?_
      refine P_goto (tgt := 17) d_88_13 rfl ?_
      exact A_zret d_88_17 mr_88 hW (Or.inr rfl) hf k
def f_C_cord (a1 : Int32) (a2 : Int32) (M : AM) : Option (Int32 × AM) :=
  ckK (gR M 0 3) 5 (bnd (f_Plan_hasCord (gR M 0 3) a1 M) (fun r2 M3 => if r2 = 0 then some ((-1), M3) else swi a2 [(0, ckK (gR M3 0 3) 5 (ald 8 M3 ((gR M3 0 3) + 6) a1 (fun x5 => some (x5, M3)))), (1, ckK (gR M3 0 3) 5 (ald 8 M3 ((gR M3 0 3) + 7) a1 (fun x7 => some (x7, M3)))), (2, bnd (f_Acts_current  M3) (fun r8 M9 => some (((gI M9 r8 1) >>> (a1 &&& 31)) &&& 1, M9)))] (some ((-1), M3))))
set_option maxRecDepth 20000 in
theorem t_C_cord {G : GT} {d : Nat} {a1 : Int32} {a2 : Int32} {M : AM} {Q : AM → Option Value → Prop} {r : Int32} {M' : AM} (hW : WT M)  (hf : f_C_cord a1 a2 M = some (r, M')) (k : WT M' → Q M' (some (.int r)))  : Cal G (d + 1) 87 [.ref 0, .int a1, .int a2] M Q := by
  refine A_enter ml_87 rfl ?_
  refine P_aload_n d_87_0 rfl ?_
  refine A_gM d_87_1 cn_87 fk_CordLoft_35 k_0 hW hf (fun hk1 hf => ?_)
  refine P_iload_n d_87_4 rfl ?_
  refine A_V1 d_87_5 vk_87_152 ml_88 rfl hk1 hW rfl hf (fun r2 M3 hc hf => t_Plan_hasCord hW hk1 hc (fun hW hb3 => ?_))
  refine A_if_ne (tgt := 13) d_87_8 rfl hf (fun hf => ?_) (fun hf => ?_)
  · refine P_iload_n d_87_13 rfl ?_
    refine A_tsw [0, 1, 2] [40, 50, 60] 75 d_87_14 rfl (by decide +kernel) hf (fun i A t h1 h2 hf => ?_) (fun hf => ?_)
    · match i, h1, h2 with
      | 0, h1, h2 =>
        have h3 := (Prod.mk.inj (Option.some.inj h1)).2
        have h4 := Option.some.inj h2
        subst h3; subst h4; clear h1 h2
        refine P_aload_n d_87_40 rfl ?_
        refine A_gM d_87_41 cn_87 fk_CordLoft_35 k_0 hW hf (fun hk4 hf => ?_)
        refine A_gFr d_87_44 cn_87 fk_CordLoft_155 ft_5_8 hk4 hW ?_
        refine P_iload_n d_87_47 rfl ?_
        refine A_iald d_87_48 (kr_5_6 hk4) (lr_5_6 hk4) hW hf (fun hf => ?_)
        exact A_iret d_87_49 mr_87 hW hf k
      | 1, h1, h2 =>
        have h3 := (Prod.mk.inj (Option.some.inj h1)).2
        have h4 := Option.some.inj h2
        subst h3; subst h4; clear h1 h2
        refine P_aload_n d_87_50 rfl ?_
        refine A_gM d_87_51 cn_87 fk_CordLoft_35 k_0 hW hf (fun hk6 hf => ?_)
        refine A_gFr d_87_54 cn_87 fk_CordLoft_158 ft_5_9 hk6 hW ?_
        refine P_iload_n d_87_57 rfl ?_
        refine A_iald d_87_58 (kr_5_7 hk6) (lr_5_7 hk6) hW hf (fun hf => ?_)
        exact A_iret d_87_59 mr_87 hW hf k
      | 2, h1, h2 =>
        have h3 := (Prod.mk.inj (Option.some.inj h1)).2
        have h4 := Option.some.inj h2
        subst h3; subst h4; clear h1 h2
        refine P_aload_n d_87_60 rfl ?_
        refine A_gF d_87_61 cn_87 fk_CordLoft_45 ft_12_5 k_0 hW ?_
        refine A_V0 d_87_64 vk_87_114 ml_78 rfl k_38 hW rfl hf (fun r8 M9 hc hf => t_Acts_current hW  hc (fun hW hb9 => ?_))
        refine A_gI d_87_67 cn_87 fk_CordLoft_161 hb9 hW ?_
        refine P_iload_n d_87_70 rfl ?_
        refine P_ishr d_87_71 ?_
        refine A_iconst d_87_72 ic_1 ?_
        refine P_iand d_87_73 ?_
        exact A_iret d_87_74 mr_87 hW hf k
      | i + 3, h1, h2 => exact absurd h2 (by simp)
    · refine A_iconst d_87_75 ic_m1 ?_
      exact A_iret d_87_76 mr_87 hW hf k
  · refine A_iconst d_87_11 ic_m1 ?_
    exact A_iret d_87_12 mr_87 hW hf k
def f_C_picture  (M : AM) : Option (Int32 × AM) :=
  bnd (f_Acts_current  M) (fun r1 M2 => some (gI M2 r1 0, M2))
set_option maxRecDepth 20000 in
theorem t_C_picture {G : GT} {d : Nat}  {M : AM} {Q : AM → Option Value → Prop} {r : Int32} {M' : AM} (hW : WT M)  (hf : f_C_picture  M = some (r, M')) (k : WT M' → Q M' (some (.int r)))  : Cal G (d + 1) 89 [.ref 0] M Q := by
  refine A_enter ml_89 rfl ?_
  refine P_aload_n d_89_0 rfl ?_
  refine A_gF d_89_1 cn_89 fk_CordLoft_45 ft_12_5 k_0 hW ?_
  refine A_V0 d_89_4 vk_89_114 ml_78 rfl k_38 hW rfl hf (fun r1 M2 hc hf => t_Acts_current hW  hc (fun hW hb2 => ?_))
  refine A_gI d_89_7 cn_89 fk_CordLoft_140 hb2 hW ?_
  exact A_iret d_89_10 mr_89 hW hf k
def f_C_isFree (a1 : Int32) (M : AM) : Option (Int32 × AM) :=
  ckK (gR M 0 3) 5 (bnd (f_Plan_hasCord (gR M 0 3) a1 M) (fun r2 M3 => if r2 = 0 then some (0, M3) else bnd (f_Acts_current  M3) (fun r4 M5 => if (((gI M5 r4 1) >>> (a1 &&& 31)) &&& 1) = 0 then some (1, M5) else some (0, M5))))
set_option maxRecDepth 20000 in
theorem t_C_isFree {G : GT} {d : Nat} {a1 : Int32} {M : AM} {Q : AM → Option Value → Prop} {r : Int32} {M' : AM} (hW : WT M)  (hf : f_C_isFree a1 M = some (r, M')) (k : WT M' → (r = 0 ∨ r = 1) → Q M' (some (.int r)))  : Cal G (d + 1) 91 [.ref 0, .int a1] M Q := by
  refine A_enter ml_91 rfl ?_
  refine P_aload_n d_91_0 rfl ?_
  refine A_gM d_91_1 cn_91 fk_CordLoft_35 k_0 hW hf (fun hk1 hf => ?_)
  refine P_iload_n d_91_4 rfl ?_
  refine A_V1 d_91_5 vk_91_152 ml_88 rfl hk1 hW rfl hf (fun r2 M3 hc hf => t_Plan_hasCord hW hk1 hc (fun hW hb3 => ?_))
  refine A_if_eq (tgt := 32) d_91_8 rfl hf (fun hf => ?_) (fun hf => ?_)
  · refine A_iconst d_91_32 ic_0 ?_
    exact A_zret d_91_33 mr_91 hW (Or.inl rfl) hf k
  · refine P_aload_n d_91_11 rfl ?_
    refine A_gF d_91_12 cn_91 fk_CordLoft_45 ft_12_5 k_0 hW ?_
    refine A_V0 d_91_15 vk_91_114 ml_78 rfl k_38 hW rfl hf (fun r4 M5 hc hf => t_Acts_current hW  hc (fun hW hb5 => ?_))
    refine A_gI d_91_18 cn_91 fk_CordLoft_161 hb5 hW ?_
    refine P_iload_n d_91_21 rfl ?_
    refine P_ishr d_91_22 ?_
    refine A_iconst d_91_23 ic_1 ?_
    refine P_iand d_91_24 ?_
    refine A_if_ne (tgt := 32) d_91_25 rfl hf (fun hf => ?_) (fun hf => ?_)
    · refine A_iconst d_91_32 ic_0 ?_
      exact A_zret d_91_33 mr_91 hW (Or.inl rfl) hf k
    · refine A_iconst d_91_28 ic_1 ?_
      refine P_goto (tgt := 33) d_91_29 rfl ?_
      exact A_zret d_91_33 mr_91 hW (Or.inr rfl) hf k
def f_Int_bitCount (a0 : Int32) (M : AM) : Option (Int32 × AM) :=
  some ((((((((a0 - ((((a0).toUInt32 >>> ((1 : Int32).toUInt32 &&& Int32.toUInt32 31)).toInt32) &&& 1431655765)) &&& 858993459) + (((((a0 - ((((a0).toUInt32 >>> ((1 : Int32).toUInt32 &&& Int32.toUInt32 31)).toInt32) &&& 1431655765))).toUInt32 >>> ((2 : Int32).toUInt32 &&& Int32.toUInt32 31)).toInt32) &&& 858993459)) + ((((((a0 - ((((a0).toUInt32 >>> ((1 : Int32).toUInt32 &&& Int32.toUInt32 31)).toInt32) &&& 1431655765)) &&& 858993459) + (((((a0 - ((((a0).toUInt32 >>> ((1 : Int32).toUInt32 &&& Int32.toUInt32 31)).toInt32) &&& 1431655765))).toUInt32 >>> ((2 : Int32).toUInt32 &&& Int32.toUInt32 31)).toInt32) &&& 858993459))).toUInt32 >>> ((4 : Int32).toUInt32 &&& Int32.toUInt32 31)).toInt32)) &&& 252645135) + ((((((((a0 - ((((a0).toUInt32 >>> ((1 : Int32).toUInt32 &&& Int32.toUInt32 31)).toInt32) &&& 1431655765)) &&& 858993459) + (((((a0 - ((((a0).toUInt32 >>> ((1 : Int32).toUInt32 &&& Int32.toUInt32 31)).toInt32) &&& 1431655765))).toUInt32 >>> ((2 : Int32).toUInt32 &&& Int32.toUInt32 31)).toInt32) &&& 858993459)) + ((((((a0 - ((((a0).toUInt32 >>> ((1 : Int32).toUInt32 &&& Int32.toUInt32 31)).toInt32) &&& 1431655765)) &&& 858993459) + (((((a0 - ((((a0).toUInt32 >>> ((1 : Int32).toUInt32 &&& Int32.toUInt32 31)).toInt32) &&& 1431655765))).toUInt32 >>> ((2 : Int32).toUInt32 &&& Int32.toUInt32 31)).toInt32) &&& 858993459))).toUInt32 >>> ((4 : Int32).toUInt32 &&& Int32.toUInt32 31)).toInt32)) &&& 252645135)).toUInt32 >>> ((8 : Int32).toUInt32 &&& Int32.toUInt32 31)).toInt32)) + (((((((((a0 - ((((a0).toUInt32 >>> ((1 : Int32).toUInt32 &&& Int32.toUInt32 31)).toInt32) &&& 1431655765)) &&& 858993459) + (((((a0 - ((((a0).toUInt32 >>> ((1 : Int32).toUInt32 &&& Int32.toUInt32 31)).toInt32) &&& 1431655765))).toUInt32 >>> ((2 : Int32).toUInt32 &&& Int32.toUInt32 31)).toInt32) &&& 858993459)) + ((((((a0 - ((((a0).toUInt32 >>> ((1 : Int32).toUInt32 &&& Int32.toUInt32 31)).toInt32) &&& 1431655765)) &&& 858993459) + (((((a0 - ((((a0).toUInt32 >>> ((1 : Int32).toUInt32 &&& Int32.toUInt32 31)).toInt32) &&& 1431655765))).toUInt32 >>> ((2 : Int32).toUInt32 &&& Int32.toUInt32 31)).toInt32) &&& 858993459))).toUInt32 >>> ((4 : Int32).toUInt32 &&& Int32.toUInt32 31)).toInt32)) &&& 252645135) + ((((((((a0 - ((((a0).toUInt32 >>> ((1 : Int32).toUInt32 &&& Int32.toUInt32 31)).toInt32) &&& 1431655765)) &&& 858993459) + (((((a0 - ((((a0).toUInt32 >>> ((1 : Int32).toUInt32 &&& Int32.toUInt32 31)).toInt32) &&& 1431655765))).toUInt32 >>> ((2 : Int32).toUInt32 &&& Int32.toUInt32 31)).toInt32) &&& 858993459)) + ((((((a0 - ((((a0).toUInt32 >>> ((1 : Int32).toUInt32 &&& Int32.toUInt32 31)).toInt32) &&& 1431655765)) &&& 858993459) + (((((a0 - ((((a0).toUInt32 >>> ((1 : Int32).toUInt32 &&& Int32.toUInt32 31)).toInt32) &&& 1431655765))).toUInt32 >>> ((2 : Int32).toUInt32 &&& Int32.toUInt32 31)).toInt32) &&& 858993459))).toUInt32 >>> ((4 : Int32).toUInt32 &&& Int32.toUInt32 31)).toInt32)) &&& 252645135)).toUInt32 >>> ((8 : Int32).toUInt32 &&& Int32.toUInt32 31)).toInt32))).toUInt32 >>> ((16 : Int32).toUInt32 &&& Int32.toUInt32 31)).toInt32)) &&& 63, M)
set_option maxRecDepth 20000 in
theorem t_Int_bitCount {G : GT} {d : Nat} {a0 : Int32} {M : AM} {Q : AM → Option Value → Prop} {r : Int32} {M' : AM} (hW : WT M)  (hf : f_Int_bitCount a0 M = some (r, M')) (k : WT M' → Q M' (some (.int r)))  : Cal G d 92 [.int a0] M Q := by
  refine A_enter ml_92 rfl ?_
  refine P_iload_n d_92_0 rfl ?_
  refine P_iload_n d_92_1 rfl ?_
  refine A_iconst d_92_2 ic_1 ?_
  refine P_iushr d_92_3 ?_
  refine A_ldcw d_92_4 cn_92 cw_java_lang_Integer_265 ?_
  refine P_iand d_92_7 ?_
  refine P_isub d_92_8 ?_
  refine A_istore_n d_92_9 ml_92 rfl rfl ?_
  refine P_iload_n d_92_10 rfl ?_
  refine A_ldcw d_92_11 cn_92 cw_java_lang_Integer_266 ?_
  refine P_iand d_92_14 ?_
  refine P_iload_n d_92_15 rfl ?_
  refine A_iconst d_92_16 ic_2 ?_
  refine P_iushr d_92_17 ?_
  refine A_ldcw d_92_18 cn_92 cw_java_lang_Integer_266 ?_
  refine P_iand d_92_21 ?_
  refine P_iadd d_92_22 ?_
  refine A_istore_n d_92_23 ml_92 rfl rfl ?_
  refine P_iload_n d_92_24 rfl ?_
  refine P_iload_n d_92_25 rfl ?_
  refine A_iconst d_92_26 ic_4 ?_
  refine P_iushr d_92_27 ?_
  refine P_iadd d_92_28 ?_
  refine A_ldcw d_92_29 cn_92 cw_java_lang_Integer_267 ?_
  refine P_iand d_92_32 ?_
  refine A_istore_n d_92_33 ml_92 rfl rfl ?_
  refine P_iload_n d_92_34 rfl ?_
  refine P_iload_n d_92_35 rfl ?_
  refine P_bipush d_92_36 bi_8 ?_
  refine P_iushr d_92_38 ?_
  refine P_iadd d_92_39 ?_
  refine A_istore_n d_92_40 ml_92 rfl rfl ?_
  refine P_iload_n d_92_41 rfl ?_
  refine P_iload_n d_92_42 rfl ?_
  refine P_bipush d_92_43 bi_16 ?_
  refine P_iushr d_92_45 ?_
  refine P_iadd d_92_46 ?_
  refine A_istore_n d_92_47 ml_92 rfl rfl ?_
  refine P_iload_n d_92_48 rfl ?_
  refine P_bipush d_92_49 bi_63 ?_
  refine P_iand d_92_51 ?_
  exact A_iret d_92_52 mr_92 hW hf k
def f_Acts_dropOldest_b9 (rec : Int32 → AM → Option (Unit × AM)) (v1 : Nat) (v2 : Int32) (M : AM) : Option (Unit × AM) :=
  if 40 ≤ v2 then some ((), M) else rald 41 M 39 (v2 + 1) (fun x1 => rast 41 M 39 v2 x1 (fun M3 => rec (v2 + 1) M3))
def f_Acts_dropOldest_l9 (v1 : Nat) : Nat → Int32 → AM → Option (Unit × AM)
  | 0, _, _ => none
  | n + 1, v2, M => f_Acts_dropOldest_b9 (f_Acts_dropOldest_l9 v1 n) v1 v2 M
set_option maxRecDepth 20000 in
theorem t_Acts_dropOldest_b9 {G : GT} {d : Nat} {v1 : Nat} {v2 : Int32} {M : AM} {Q : AM → Option Value → Prop} {yo : Unit} {Mo : AM} {rec : Int32 → AM → Option (Unit × AM)} (hrec : ∀ (v2 : Int32) (M : AM), WT M → rec v2 M = some (yo, Mo) → PW G d 94 9 [.ref 38, .ref v1, .int v2] [] M 0 0 Q) (k1 : WT Mo → PW G d 94 35 [.ref 38, .ref v1, ux] [] Mo 0 0 Q) (hW : WT M) (hv1 : kd0 v1 = 9)  (hf : f_Acts_dropOldest_b9 rec v1 v2 M = some (yo, Mo)) : PW G d 94 9 [.ref 38, .ref v1, .int v2] [] M 0 0 Q := by
  refine P_iload_n d_94_9 rfl ?_
  refine P_bipush d_94_10 bi_40 ?_
  refine A_icmp_ge (tgt := 35) d_94_12 rfl hf (fun hf => ?_) (fun hf => ?_)
  · refine P_fgt [true, true, false] ?_
    cases hf
    exact k1 hW 
  · refine P_aload_n d_94_15 rfl ?_
    refine A_gF d_94_16 cn_94 fk_CordLoft_Acts_11 ft_1_0 k_38 hW ?_
    refine P_iload_n d_94_19 rfl ?_
    refine P_aload_n d_94_20 rfl ?_
    refine A_gF d_94_21 cn_94 fk_CordLoft_Acts_11 ft_1_0 k_38 hW ?_
    refine P_iload_n d_94_24 rfl ?_
    refine A_iconst d_94_25 ic_1 ?_
    refine P_iadd d_94_26 ?_
    refine A_aald d_94_27 k_39 l_39 hW hf (fun x1 hk2 hf => ?_)
    refine A_aast d_94_28 k_39 l_39 hk2 hW hf (fun hW hf => ?_)
    refine A_iinc d_94_29 ic_1 rfl ml_94 rfl rfl ?_
    refine P_goto (tgt := 9) d_94_32 rfl ?_
    exact hrec _ _ hW  hf
theorem t_Acts_dropOldest_l9 {G : GT} {d : Nat} {v1 : Nat} {Q : AM → Option Value → Prop} {yo : Unit} {Mo : AM} (k1 : WT Mo → PW G d 94 35 [.ref 38, .ref v1, ux] [] Mo 0 0 Q) (hv1 : kd0 v1 = 9) : ∀ (z : Nat) (v2 : Int32) (M : AM), WT M → f_Acts_dropOldest_l9 v1 z v2 M = some (yo, Mo) → PW G d 94 9 [.ref 38, .ref v1, .int v2] [] M 0 0 Q := by
  intro z
  induction z with
  | zero => intro v2 M hW hf; cases hf
  | succ z ih => intro v2 M hW hf; exact t_Acts_dropOldest_b9 (fun v2 M hW hf => ih v2 M hW hf) k1 hW hv1  hf
def f_Acts_dropOldest  (M : AM) : Option (Unit × AM) :=
  rald 41 M 39 0 (fun x1 => bnd (f_Acts_dropOldest_l9 x1 fu 0 M) (fun y3 M4 => rast 41 M4 39 40 x1 (fun M5 => wI M5 38 1 39 (fun M6 => some ((), M6)))))
set_option maxRecDepth 20000 in
theorem t_Acts_dropOldest {G : GT} {d : Nat}  {M : AM} {Q : AM → Option Value → Prop} {r : Unit} {M' : AM} (hW : WT M)  (hf : f_Acts_dropOldest  M = some (r, M')) (k : WT M' → Q M' none)  : Cal G d 94 [.ref 38] M Q := by
  refine A_enter ml_94 rfl ?_
  refine P_aload_n d_94_0 rfl ?_
  refine A_gF d_94_1 cn_94 fk_CordLoft_Acts_11 ft_1_0 k_38 hW ?_
  refine A_iconst d_94_4 ic_0 ?_
  refine A_aald d_94_5 k_39 l_39 hW hf (fun x1 hk2 hf => ?_)
  refine A_astore_n d_94_6 ml_94 rfl rfl ?_
  refine A_iconst d_94_7 ic_0 ?_
  refine A_istore_n d_94_8 ml_94 rfl rfl ?_
  obtain ⟨y3, M4, hl, hf⟩ := bnd_some hf
  refine t_Acts_dropOldest_l9 (fun hW => ?_) hk2 fu _ _ hW  hl
  refine P_aload_n d_94_35 rfl ?_
  refine A_gF d_94_36 cn_94 fk_CordLoft_Acts_11 ft_1_0 k_38 hW ?_
  refine P_bipush d_94_39 bi_40 ?_
  refine P_aload_n d_94_41 rfl ?_
  refine A_aast d_94_42 k_39 l_39 hk2 hW hf (fun hW hf => ?_)
  refine P_aload_n d_94_43 rfl ?_
  refine P_bipush d_94_44 bi_39 ?_
  refine A_pI d_94_46 cn_94 fp_CordLoft_Acts_16 k_38 hW hf (fun hW hf => ?_)
  exact A_ret d_94_49 mr_94 hW hf k
def f_State_become (a0 : Nat) (a1 : Nat) (M : AM) : Option (Unit × AM) :=
  wI M a0 0 (gI M a1 0) (fun M1 => wI M1 a0 1 (gI M1 a1 1) (fun M2 => wI M2 a0 2 (gI M2 a1 2) (fun M3 => wI M3 a0 3 (gI M3 a1 3) (fun M4 => wI M4 a0 4 (gI M4 a1 4) (fun M5 => some ((), M5))))))
set_option maxRecDepth 20000 in
theorem t_State_become {G : GT} {d : Nat} {a0 : Nat} {a1 : Nat} {M : AM} {Q : AM → Option Value → Prop} {r : Unit} {M' : AM} (hW : WT M) (ha0 : kd0 a0 = 9) (ha1 : kd0 a1 = 9) (hf : f_State_become a0 a1 M = some (r, M')) (k : WT M' → Q M' none)  : Cal G d 95 [.ref a0, .ref a1] M Q := by
  refine A_enter ml_95 rfl ?_
  refine P_aload_n d_95_0 rfl ?_
  refine P_aload_n d_95_1 rfl ?_
  refine A_gI d_95_2 cn_95 fk_CordLoft_State_13 ha1 hW ?_
  refine A_pI d_95_5 cn_95 fp_CordLoft_State_13 ha0 hW hf (fun hW hf => ?_)
  refine P_aload_n d_95_8 rfl ?_
  refine P_aload_n d_95_9 rfl ?_
  refine A_gI d_95_10 cn_95 fk_CordLoft_State_18 ha1 hW ?_
  refine A_pI d_95_13 cn_95 fp_CordLoft_State_18 ha0 hW hf (fun hW hf => ?_)
  refine P_aload_n d_95_16 rfl ?_
  refine P_aload_n d_95_17 rfl ?_
  refine A_gI d_95_18 cn_95 fk_CordLoft_State_21 ha1 hW ?_
  refine A_pI d_95_21 cn_95 fp_CordLoft_State_21 ha0 hW hf (fun hW hf => ?_)
  refine P_aload_n d_95_24 rfl ?_
  refine P_aload_n d_95_25 rfl ?_
  refine A_gI d_95_26 cn_95 fk_CordLoft_State_24 ha1 hW ?_
  refine A_pI d_95_29 cn_95 fp_CordLoft_State_24 ha0 hW hf (fun hW hf => ?_)
  refine P_aload_n d_95_32 rfl ?_
  refine P_aload_n d_95_33 rfl ?_
  refine A_gI d_95_34 cn_95 fk_CordLoft_State_30 ha1 hW ?_
  refine A_pI d_95_37 cn_95 fp_CordLoft_State_30 ha0 hW hf (fun hW hf => ?_)
  exact A_ret d_95_40 mr_95 hW hf k
def f_Acts_open_j13  (M : AM) : Option (Nat × AM) :=
  rald 41 M 39 (gI M 38 1) (fun x1 => wI M 38 1 ((gI M 38 1) + 1) (fun M3 => wI M3 38 2 (gI M3 38 1) (fun M4 => rald 41 M4 39 (gI M4 38 1) (fun x5 => bnd (f_State_become x5 x1 M4) (fun r7 M8 => rald 41 M8 39 (gI M8 38 1) (fun x9 => some (x9, M8)))))))
set_option maxRecDepth 20000 in
theorem t_Acts_open_j13 {G : GT} {d : Nat}  {M : AM} {Q : AM → Option Value → Prop} {r : Nat} {M' : AM} (k : WT M' → kd0 r = 9 → Q M' (some (.ref r))) (hW : WT M)  (hf : f_Acts_open_j13  M = some (r, M')) : PW G (d + 1) 93 13 [.ref 38, ux] [] M 0 0 Q := by
  refine P_aload_n d_93_13 rfl ?_
  refine A_gF d_93_14 cn_93 fk_CordLoft_Acts_11 ft_1_0 k_38 hW ?_
  refine P_aload_n d_93_17 rfl ?_
  refine A_gI d_93_18 cn_93 fk_CordLoft_Acts_16 k_38 hW ?_
  refine A_aald d_93_21 k_39 l_39 hW hf (fun x1 hk2 hf => ?_)
  refine A_astore_n d_93_22 ml_93 rfl rfl ?_
  refine P_aload_n d_93_23 rfl ?_
  refine P_dup d_93_24 rfl ?_
  refine A_gI d_93_25 cn_93 fk_CordLoft_Acts_16 k_38 hW ?_
  refine A_iconst d_93_28 ic_1 ?_
  refine P_iadd d_93_29 ?_
  refine A_pI d_93_30 cn_93 fp_CordLoft_Acts_16 k_38 hW hf (fun hW hf => ?_)
  refine P_aload_n d_93_33 rfl ?_
  refine P_aload_n d_93_34 rfl ?_
  refine A_gI d_93_35 cn_93 fk_CordLoft_Acts_16 k_38 hW ?_
  refine A_pI d_93_38 cn_93 fp_CordLoft_Acts_23 k_38 hW hf (fun hW hf => ?_)
  refine P_aload_n d_93_41 rfl ?_
  refine A_gF d_93_42 cn_93 fk_CordLoft_Acts_11 ft_1_0 k_38 hW ?_
  refine P_aload_n d_93_45 rfl ?_
  refine A_gI d_93_46 cn_93 fk_CordLoft_Acts_16 k_38 hW ?_
  refine A_aald d_93_49 k_39 l_39 hW hf (fun x5 hk6 hf => ?_)
  refine P_aload_n d_93_50 rfl ?_
  refine A_V1 d_93_51 vk_93_26 ml_95 rfl hk6 hW rfl hf (fun r7 M8 hc hf => t_State_become hW hk6 hk2 hc (fun hW => ?_))
  refine P_aload_n d_93_54 rfl ?_
  refine A_gF d_93_55 cn_93 fk_CordLoft_Acts_11 ft_1_0 k_38 hW ?_
  refine P_aload_n d_93_58 rfl ?_
  refine A_gI d_93_59 cn_93 fk_CordLoft_Acts_16 k_38 hW ?_
  refine A_aald d_93_62 k_39 l_39 hW hf (fun x9 hk10 hf => ?_)
  exact A_aret d_93_63 mr_93 hW hk10 hf k
def f_Acts_open  (M : AM) : Option (Nat × AM) :=
  if (gI M 38 1) < 40 then f_Acts_open_j13  M else bnd (f_Acts_dropOldest  M) (fun r1 M2 => f_Acts_open_j13  M2)
set_option maxRecDepth 20000 in
theorem t_Acts_open {G : GT} {d : Nat}  {M : AM} {Q : AM → Option Value → Prop} {r : Nat} {M' : AM} (hW : WT M)  (hf : f_Acts_open  M = some (r, M')) (k : WT M' → kd0 r = 9 → Q M' (some (.ref r)))  : Cal G (d + 1) 93 [.ref 38] M Q := by
  refine A_enter ml_93 rfl ?_
  refine P_aload_n d_93_0 rfl ?_
  refine A_gI d_93_1 cn_93 fk_CordLoft_Acts_16 k_38 hW ?_
  refine P_bipush d_93_4 bi_40 ?_
  refine A_icmp_lt (tgt := 13) d_93_6 rfl hf (fun hf => ?_) (fun hf => ?_)
  · exact t_Acts_open_j13 k hW  hf
  · refine P_aload_n d_93_9 rfl ?_
    refine A_V0 d_93_10 vk_93_20 ml_94 rfl k_38 hW rfl hf (fun r1 M2 hc hf => t_Acts_dropOldest hW  hc (fun hW => ?_))
    exact t_Acts_open_j13 k hW  hf
def f_C_pull (a1 : Int32) (M : AM) : Option (Int32 × AM) :=
  bnd (f_C_isFree a1 M) (fun r1 M2 => if r1 = 0 then some ((-1), M2) else bnd (f_Acts_current  M2) (fun r3 M4 => ckK (gR M4 0 3) 5 (ald 8 M4 ((gR M4 0 3) + 6) a1 (fun x6 => bnd (f_Int_bitCount ((gI M4 r3 0) ^^^ x6) M4) (fun r7 M8 => ckK (gR M8 0 3) 5 (if (gI M8 (gR M8 0 3) 14) ≤ r7 then bnd (f_Acts_open  M8) (fun r10 M11 => wI M11 r10 0 ((gI M4 r3 0) ^^^ x6) (fun M12 => ckK (gR M12 0 3) 5 (ald 8 M12 ((gR M12 0 3) + 7) a1 (fun x14 => wI M12 r10 2 ((gI M12 r10 2) + x14) (fun M15 => some ((gI M4 r3 0) ^^^ x6, M15)))))) else some ((-1), M8)))))))
set_option maxRecDepth 20000 in
theorem t_C_pull {G : GT} {d : Nat} {a1 : Int32} {M : AM} {Q : AM → Option Value → Prop} {r : Int32} {M' : AM} (hW : WT M)  (hf : f_C_pull a1 M = some (r, M')) (k : WT M' → Q M' (some (.int r)))  : Cal G (d + 2) 90 [.ref 0, .int a1] M Q := by
  refine A_enter ml_90 rfl ?_
  refine P_aload_n d_90_0 rfl ?_
  refine P_iload_n d_90_1 rfl ?_
  refine A_V1 d_90_2 vk_90_164 ml_91 rfl k_0 hW rfl hf (fun r1 M2 hc hf => t_C_isFree hW  hc (fun hW hb2 => ?_))
  refine A_if_ne (tgt := 10) d_90_5 rfl hf (fun hf => ?_) (fun hf => ?_)
  · refine P_aload_n d_90_10 rfl ?_
    refine A_gF d_90_11 cn_90 fk_CordLoft_45 ft_12_5 k_0 hW ?_
    refine A_V0 d_90_14 vk_90_114 ml_78 rfl k_38 hW rfl hf (fun r3 M4 hc hf => t_Acts_current hW  hc (fun hW hb4 => ?_))
    refine A_gI d_90_17 cn_90 fk_CordLoft_140 hb4 hW ?_
    refine P_aload_n d_90_20 rfl ?_
    refine A_gM d_90_21 cn_90 fk_CordLoft_35 k_0 hW hf (fun hk5 hf => ?_)
    refine A_gFr d_90_24 cn_90 fk_CordLoft_155 ft_5_8 hk5 hW ?_
    refine P_iload_n d_90_27 rfl ?_
    refine A_iald d_90_28 (kr_5_6 hk5) (lr_5_6 hk5) hW hf (fun hf => ?_)
    refine P_ixor d_90_29 ?_
    refine A_istore_n d_90_30 ml_90 rfl rfl ?_
    refine P_iload_n d_90_31 rfl ?_
    refine A_S1 d_90_32 sk_90_167 ml_92 rfl rfl hf (fun r7 M8 hc hf => t_Int_bitCount hW  hc (fun hW => ?_))
    refine P_aload_n d_90_35 rfl ?_
    refine A_gM d_90_36 cn_90 fk_CordLoft_35 k_0 hW hf (fun hk9 hf => ?_)
    refine A_gI d_90_39 cn_90 fk_CordLoft_173 hk9 hW ?_
    refine A_icmp_ge (tgt := 47) d_90_42 rfl hf (fun hf => ?_) (fun hf => ?_)
    · refine P_aload_n d_90_47 rfl ?_
      refine A_gF d_90_48 cn_90 fk_CordLoft_45 ft_12_5 k_0 hW ?_
      refine A_V0 d_90_51 vk_90_176 ml_93 rfl k_38 hW rfl hf (fun r10 M11 hc hf => t_Acts_open hW  hc (fun hW hb11 => ?_))
      refine A_astore_n d_90_54 ml_90 rfl rfl ?_
      refine P_aload_n d_90_55 rfl ?_
      refine P_iload_n d_90_56 rfl ?_
      refine A_pI d_90_57 cn_90 fp_CordLoft_140 hb11 hW hf (fun hW hf => ?_)
      refine P_aload_n d_90_60 rfl ?_
      refine P_dup d_90_61 rfl ?_
      refine A_gI d_90_62 cn_90 fk_CordLoft_179 hb11 hW ?_
      refine P_aload_n d_90_65 rfl ?_
      refine A_gM d_90_66 cn_90 fk_CordLoft_35 k_0 hW hf (fun hk13 hf => ?_)
      refine A_gFr d_90_69 cn_90 fk_CordLoft_158 ft_5_9 hk13 hW ?_
      refine P_iload_n d_90_72 rfl ?_
      refine A_iald d_90_73 (kr_5_7 hk13) (lr_5_7 hk13) hW hf (fun hf => ?_)
      refine P_iadd d_90_74 ?_
      refine A_pI d_90_75 cn_90 fp_CordLoft_179 hb11 hW hf (fun hW hf => ?_)
      refine P_iload_n d_90_78 rfl ?_
      exact A_iret d_90_79 mr_90 hW hf k
    · refine A_iconst d_90_45 ic_m1 ?_
      exact A_iret d_90_46 mr_90 hW hf k
  · refine A_iconst d_90_8 ic_m1 ?_
    exact A_iret d_90_9 mr_90 hW hf k
def f_C_tie (a1 : Int32) (M : AM) : Option (Int32 × AM) :=
  bnd (f_C_isFree a1 M) (fun r1 M2 => if r1 = 0 then some ((-1), M2) else bnd (f_Acts_open  M2) (fun r3 M4 => wI M4 r3 1 ((gI M4 r3 1) ||| ((1 : Int32) <<< (a1 &&& 31))) (fun M5 => some (gI M5 r3 1, M5))))
set_option maxRecDepth 20000 in
theorem t_C_tie {G : GT} {d : Nat} {a1 : Int32} {M : AM} {Q : AM → Option Value → Prop} {r : Int32} {M' : AM} (hW : WT M)  (hf : f_C_tie a1 M = some (r, M')) (k : WT M' → Q M' (some (.int r)))  : Cal G (d + 2) 96 [.ref 0, .int a1] M Q := by
  refine A_enter ml_96 rfl ?_
  refine P_aload_n d_96_0 rfl ?_
  refine P_iload_n d_96_1 rfl ?_
  refine A_V1 d_96_2 vk_96_164 ml_91 rfl k_0 hW rfl hf (fun r1 M2 hc hf => t_C_isFree hW  hc (fun hW hb2 => ?_))
  refine A_if_ne (tgt := 10) d_96_5 rfl hf (fun hf => ?_) (fun hf => ?_)
  · refine P_aload_n d_96_10 rfl ?_
    refine A_gF d_96_11 cn_96 fk_CordLoft_45 ft_12_5 k_0 hW ?_
    refine A_V0 d_96_14 vk_96_176 ml_93 rfl k_38 hW rfl hf (fun r3 M4 hc hf => t_Acts_open hW  hc (fun hW hb4 => ?_))
    refine A_astore_n d_96_17 ml_96 rfl rfl ?_
    refine P_aload_n d_96_18 rfl ?_
    refine P_dup d_96_19 rfl ?_
    refine A_gI d_96_20 cn_96 fk_CordLoft_161 hb4 hW ?_
    refine A_iconst d_96_23 ic_1 ?_
    refine P_iload_n d_96_24 rfl ?_
    refine P_ishl d_96_25 ?_
    refine P_ior d_96_26 ?_
    refine A_pI d_96_27 cn_96 fp_CordLoft_161 hb4 hW hf (fun hW hf => ?_)
    refine P_aload_n d_96_30 rfl ?_
    refine A_gI d_96_31 cn_96 fk_CordLoft_161 hb4 hW ?_
    exact A_iret d_96_34 mr_96 hW hf k
  · refine A_iconst d_96_8 ic_m1 ?_
    exact A_iret d_96_9 mr_96 hW hf k
def f_C_isTied (a1 : Int32) (M : AM) : Option (Int32 × AM) :=
  ckK (gR M 0 3) 5 (bnd (f_Plan_hasCord (gR M 0 3) a1 M) (fun r2 M3 => if r2 = 0 then some (0, M3) else bnd (f_Acts_current  M3) (fun r4 M5 => if (((gI M5 r4 1) >>> (a1 &&& 31)) &&& 1) = 0 then some (0, M5) else some (1, M5))))
set_option maxRecDepth 20000 in
theorem t_C_isTied {G : GT} {d : Nat} {a1 : Int32} {M : AM} {Q : AM → Option Value → Prop} {r : Int32} {M' : AM} (hW : WT M)  (hf : f_C_isTied a1 M = some (r, M')) (k : WT M' → (r = 0 ∨ r = 1) → Q M' (some (.int r)))  : Cal G (d + 1) 98 [.ref 0, .int a1] M Q := by
  refine A_enter ml_98 rfl ?_
  refine P_aload_n d_98_0 rfl ?_
  refine A_gM d_98_1 cn_98 fk_CordLoft_35 k_0 hW hf (fun hk1 hf => ?_)
  refine P_iload_n d_98_4 rfl ?_
  refine A_V1 d_98_5 vk_98_152 ml_88 rfl hk1 hW rfl hf (fun r2 M3 hc hf => t_Plan_hasCord hW hk1 hc (fun hW hb3 => ?_))
  refine A_if_eq (tgt := 32) d_98_8 rfl hf (fun hf => ?_) (fun hf => ?_)
  · refine A_iconst d_98_32 ic_0 ?_
    exact A_zret d_98_33 mr_98 hW (Or.inl rfl) hf k
  · refine P_aload_n d_98_11 rfl ?_
    refine A_gF d_98_12 cn_98 fk_CordLoft_45 ft_12_5 k_0 hW ?_
    refine A_V0 d_98_15 vk_98_114 ml_78 rfl k_38 hW rfl hf (fun r4 M5 hc hf => t_Acts_current hW  hc (fun hW hb5 => ?_))
    refine A_gI d_98_18 cn_98 fk_CordLoft_161 hb5 hW ?_
    refine P_iload_n d_98_21 rfl ?_
    refine P_ishr d_98_22 ?_
    refine A_iconst d_98_23 ic_1 ?_
    refine P_iand d_98_24 ?_
    refine A_if_eq (tgt := 32) d_98_25 rfl hf (fun hf => ?_) (fun hf => ?_)
    · refine A_iconst d_98_32 ic_0 ?_
      exact A_zret d_98_33 mr_98 hW (Or.inl rfl) hf k
    · refine A_iconst d_98_28 ic_1 ?_
      refine P_goto (tgt := 33) d_98_29 rfl ?_
      exact A_zret d_98_33 mr_98 hW (Or.inr rfl) hf k
def f_C_loose (a1 : Int32) (M : AM) : Option (Int32 × AM) :=
  bnd (f_C_isTied a1 M) (fun r1 M2 => if r1 = 0 then some ((-1), M2) else bnd (f_Acts_open  M2) (fun r3 M4 => wI M4 r3 1 ((gI M4 r3 1) &&& (((1 : Int32) <<< (a1 &&& 31)) ^^^ (-1))) (fun M5 => some (gI M5 r3 1, M5))))
set_option maxRecDepth 20000 in
theorem t_C_loose {G : GT} {d : Nat} {a1 : Int32} {M : AM} {Q : AM → Option Value → Prop} {r : Int32} {M' : AM} (hW : WT M)  (hf : f_C_loose a1 M = some (r, M')) (k : WT M' → Q M' (some (.int r)))  : Cal G (d + 2) 97 [.ref 0, .int a1] M Q := by
  refine A_enter ml_97 rfl ?_
  refine P_aload_n d_97_0 rfl ?_
  refine P_iload_n d_97_1 rfl ?_
  refine A_V1 d_97_2 vk_97_182 ml_98 rfl k_0 hW rfl hf (fun r1 M2 hc hf => t_C_isTied hW  hc (fun hW hb2 => ?_))
  refine A_if_ne (tgt := 10) d_97_5 rfl hf (fun hf => ?_) (fun hf => ?_)
  · refine P_aload_n d_97_10 rfl ?_
    refine A_gF d_97_11 cn_97 fk_CordLoft_45 ft_12_5 k_0 hW ?_
    refine A_V0 d_97_14 vk_97_176 ml_93 rfl k_38 hW rfl hf (fun r3 M4 hc hf => t_Acts_open hW  hc (fun hW hb4 => ?_))
    refine A_astore_n d_97_17 ml_97 rfl rfl ?_
    refine P_aload_n d_97_18 rfl ?_
    refine P_dup d_97_19 rfl ?_
    refine A_gI d_97_20 cn_97 fk_CordLoft_161 hb4 hW ?_
    refine A_iconst d_97_23 ic_1 ?_
    refine P_iload_n d_97_24 rfl ?_
    refine P_ishl d_97_25 ?_
    refine A_iconst d_97_26 ic_m1 ?_
    refine P_ixor d_97_27 ?_
    refine P_iand d_97_28 ?_
    refine A_pI d_97_29 cn_97 fp_CordLoft_161 hb4 hW hf (fun hW hf => ?_)
    refine P_aload_n d_97_32 rfl ?_
    refine A_gI d_97_33 cn_97 fk_CordLoft_161 hb4 hW ?_
    exact A_iret d_97_36 mr_97 hW hf k
  · refine A_iconst d_97_8 ic_m1 ?_
    exact A_iret d_97_9 mr_97 hW hf k
def f_Form_isEmpty (a0 : Nat) (M : AM) : Option (Int32 × AM) :=
  if (gI M a0 1) = 0 then some (1, M) else some (0, M)
set_option maxRecDepth 20000 in
theorem t_Form_isEmpty {G : GT} {d : Nat} {a0 : Nat} {M : AM} {Q : AM → Option Value → Prop} {r : Int32} {M' : AM} (hW : WT M) (ha0 : kd0 a0 = 3) (hf : f_Form_isEmpty a0 M = some (r, M')) (k : WT M' → (r = 0 ∨ r = 1) → Q M' (some (.int r)))  : Cal G d 102 [.ref a0] M Q := by
  refine A_enter ml_102 rfl ?_
  refine P_aload_n d_102_0 rfl ?_
  refine A_gI d_102_1 cn_102 fk_CordLoft_Formula_19 ha0 hW ?_
  refine A_if_ne (tgt := 11) d_102_4 rfl hf (fun hf => ?_) (fun hf => ?_)
  · refine A_iconst d_102_11 ic_0 ?_
    exact A_zret d_102_12 mr_102 hW (Or.inl rfl) hf k
  · refine A_iconst d_102_7 ic_1 ?_
    refine P_goto (tgt := 12) d_102_8 rfl ?_
    exact A_zret d_102_12 mr_102 hW (Or.inr rfl) hf k
def f_Form_give (a0 : Nat) (a1 : Int32) (a2 : Int32) (M : AM) : Option (Unit × AM) :=
  if (a1 - 140) < 0 then some ((), M) else if 6 ≤ (a1 - 140) then some ((), M) else ast 6 M (a0 + 3) (a1 - 140) a2 (fun M1 => some ((), M1))
set_option maxRecDepth 20000 in
theorem t_Form_give {G : GT} {d : Nat} {a0 : Nat} {a1 : Int32} {a2 : Int32} {M : AM} {Q : AM → Option Value → Prop} {r : Unit} {M' : AM} (hW : WT M) (ha0 : kd0 a0 = 3) (hf : f_Form_give a0 a1 a2 M = some (r, M')) (k : WT M' → Q M' none)  : Cal G d 104 [.ref a0, .int a1, .int a2] M Q := by
  refine A_enter ml_104 rfl ?_
  refine P_iload_n d_104_0 rfl ?_
  refine P_sipush d_104_1 si_140 ?_
  refine P_isub d_104_4 ?_
  refine A_istore_n d_104_5 ml_104 rfl rfl ?_
  refine P_iload_n d_104_6 rfl ?_
  refine A_if_lt (tgt := 23) d_104_7 rfl hf (fun hf => ?_) (fun hf => ?_)
  · exact A_ret d_104_23 mr_104 hW hf k
  · refine P_iload_n d_104_10 rfl ?_
    refine P_bipush d_104_11 bi_6 ?_
    refine A_icmp_ge (tgt := 23) d_104_13 rfl hf (fun hf => ?_) (fun hf => ?_)
    · exact A_ret d_104_23 mr_104 hW hf k
    · refine P_aload_n d_104_16 rfl ?_
      refine A_gFr d_104_17 cn_104 fk_CordLoft_Formula_16 ft_3_3 ha0 hW ?_
      refine P_iload_n d_104_20 rfl ?_
      refine P_iload_n d_104_21 rfl ?_
      refine A_iast d_104_22 (kr_3_3 ha0) (lr_3_3 ha0) hW hf (fun hW hf => ?_)
      exact A_ret d_104_23 mr_104 hW hf k
def f_Form_givenFor (a0 : Nat) (a1 : Int32) (M : AM) : Option (Int32 × AM) :=
  if (a1 - 140) < 0 then some (0, M) else if 6 ≤ (a1 - 140) then some (0, M) else ald 6 M (a0 + 3) (a1 - 140) (fun x1 => some (x1, M))
set_option maxRecDepth 20000 in
theorem t_Form_givenFor {G : GT} {d : Nat} {a0 : Nat} {a1 : Int32} {M : AM} {Q : AM → Option Value → Prop} {r : Int32} {M' : AM} (hW : WT M) (ha0 : kd0 a0 = 3) (hf : f_Form_givenFor a0 a1 M = some (r, M')) (k : WT M' → Q M' (some (.int r)))  : Cal G d 106 [.ref a0, .int a1] M Q := by
  refine A_enter ml_106 rfl ?_
  refine P_iload_n d_106_0 rfl ?_
  refine P_sipush d_106_1 si_140 ?_
  refine P_isub d_106_4 ?_
  refine A_istore_n d_106_5 ml_106 rfl rfl ?_
  refine P_iload_n d_106_6 rfl ?_
  refine A_if_lt (tgt := 25) d_106_7 rfl hf (fun hf => ?_) (fun hf => ?_)
  · refine A_iconst d_106_25 ic_0 ?_
    exact A_iret d_106_26 mr_106 hW hf k
  · refine P_iload_n d_106_10 rfl ?_
    refine P_bipush d_106_11 bi_6 ?_
    refine A_icmp_ge (tgt := 25) d_106_13 rfl hf (fun hf => ?_) (fun hf => ?_)
    · refine A_iconst d_106_25 ic_0 ?_
      exact A_iret d_106_26 mr_106 hW hf k
    · refine P_aload_n d_106_16 rfl ?_
      refine A_gFr d_106_17 cn_106 fk_CordLoft_Formula_16 ft_3_3 ha0 hW ?_
      refine P_iload_n d_106_20 rfl ?_
      refine A_iald d_106_21 (kr_3_3 ha0) (lr_3_3 ha0) hW hf (fun hf => ?_)
      refine P_goto (tgt := 26) d_106_22 rfl ?_
      exact A_iret d_106_26 mr_106 hW hf k
def f_Form_join_j183  (M : AM) : Option (Int32 × AM) :=
  some (1, M)
set_option maxRecDepth 20000 in
theorem t_Form_join_j183 {G : GT} {d : Nat}  {M : AM} {Q : AM → Option Value → Prop} {r : Int32} {M' : AM} (k : WT M' → Q M' (some (.int r))) (hW : WT M)  (hf : f_Form_join_j183  M = some (r, M')) : PW G d 107 183 [ux, ux, ux] [] M 0 0 Q := by
  refine A_iconst d_107_183 ic_1 ?_
  refine P_goto (tgt := 188) d_107_184 rfl ?_
  exact A_iret d_107_188 mr_107 hW hf k
def f_Form_join (a0 : Int32) (a1 : Int32) (a2 : Int32) (M : AM) : Option (Int32 × AM) :=
  swi a0 [(37, if a2 = 0 then some (0, M) else dvz a2 (some (a1 % a2, M))), (42, some (a1 * a2, M)), (43, some (a1 + a2, M)), (45, some (a1 - a2, M)), (47, if a2 = 0 then some (0, M) else dvz a2 (some (a1 / a2, M))), (60, if a2 ≤ a1 then some (0, M) else some (1, M)), (61, if a1 = a2 then some (1, M) else some (0, M)), (62, if a1 ≤ a2 then some (0, M) else some (1, M)), (137, if a1 = 0 then if a2 = 0 then some (0, M) else f_Form_join_j183  M else f_Form_join_j183  M), (138, if a1 = 0 then some (0, M) else if a2 = 0 then some (0, M) else some (1, M))] (some (0, M))
set_option maxRecDepth 20000 in
theorem t_Form_join {G : GT} {d : Nat} {a0 : Int32} {a1 : Int32} {a2 : Int32} {M : AM} {Q : AM → Option Value → Prop} {r : Int32} {M' : AM} (hW : WT M)  (hf : f_Form_join a0 a1 a2 M = some (r, M')) (k : WT M' → Q M' (some (.int r)))  : Cal G d 107 [.int a0, .int a1, .int a2] M Q := by
  refine A_enter ml_107 rfl ?_
  refine P_iload_n d_107_0 rfl ?_
  refine A_lsw [37, 42, 43, 45, 47, 60, 61, 62, 137, 138] [116, 100, 92, 96, 104, 128, 150, 139, 175, 161] 189 d_107_1 rfl (by decide +kernel) hf (fun i A t h1 h2 hf => ?_) (fun hf => ?_)
  · match i, h1, h2 with
    | 0, h1, h2 =>
      have h3 := (Prod.mk.inj (Option.some.inj h1)).2
      have h4 := Option.some.inj h2
      subst h3; subst h4; clear h1 h2
      refine P_iload_n d_107_116 rfl ?_
      refine A_if_ne (tgt := 124) d_107_117 rfl hf (fun hf => ?_) (fun hf => ?_)
      · refine P_iload_n d_107_124 rfl ?_
        refine P_iload_n d_107_125 rfl ?_
        refine A_irem d_107_126 hf (fun hf => ?_)
        exact A_iret d_107_127 mr_107 hW hf k
      · refine A_iconst d_107_120 ic_0 ?_
        refine P_goto (tgt := 127) d_107_121 rfl ?_
        exact A_iret d_107_127 mr_107 hW hf k
    | 1, h1, h2 =>
      have h3 := (Prod.mk.inj (Option.some.inj h1)).2
      have h4 := Option.some.inj h2
      subst h3; subst h4; clear h1 h2
      refine P_iload_n d_107_100 rfl ?_
      refine P_iload_n d_107_101 rfl ?_
      refine P_imul d_107_102 ?_
      exact A_iret d_107_103 mr_107 hW hf k
    | 2, h1, h2 =>
      have h3 := (Prod.mk.inj (Option.some.inj h1)).2
      have h4 := Option.some.inj h2
      subst h3; subst h4; clear h1 h2
      refine P_iload_n d_107_92 rfl ?_
      refine P_iload_n d_107_93 rfl ?_
      refine P_iadd d_107_94 ?_
      exact A_iret d_107_95 mr_107 hW hf k
    | 3, h1, h2 =>
      have h3 := (Prod.mk.inj (Option.some.inj h1)).2
      have h4 := Option.some.inj h2
      subst h3; subst h4; clear h1 h2
      refine P_iload_n d_107_96 rfl ?_
      refine P_iload_n d_107_97 rfl ?_
      refine P_isub d_107_98 ?_
      exact A_iret d_107_99 mr_107 hW hf k
    | 4, h1, h2 =>
      have h3 := (Prod.mk.inj (Option.some.inj h1)).2
      have h4 := Option.some.inj h2
      subst h3; subst h4; clear h1 h2
      refine P_iload_n d_107_104 rfl ?_
      refine A_if_ne (tgt := 112) d_107_105 rfl hf (fun hf => ?_) (fun hf => ?_)
      · refine P_iload_n d_107_112 rfl ?_
        refine P_iload_n d_107_113 rfl ?_
        refine A_idiv d_107_114 hf (fun hf => ?_)
        exact A_iret d_107_115 mr_107 hW hf k
      · refine A_iconst d_107_108 ic_0 ?_
        refine P_goto (tgt := 115) d_107_109 rfl ?_
        exact A_iret d_107_115 mr_107 hW hf k
    | 5, h1, h2 =>
      have h3 := (Prod.mk.inj (Option.some.inj h1)).2
      have h4 := Option.some.inj h2
      subst h3; subst h4; clear h1 h2
      refine P_iload_n d_107_128 rfl ?_
      refine P_iload_n d_107_129 rfl ?_
      refine A_icmp_ge (tgt := 137) d_107_130 rfl hf (fun hf => ?_) (fun hf => ?_)
      · refine A_iconst d_107_137 ic_0 ?_
        exact A_iret d_107_138 mr_107 hW hf k
      · refine A_iconst d_107_133 ic_1 ?_
        refine P_goto (tgt := 138) d_107_134 rfl ?_
        exact A_iret d_107_138 mr_107 hW hf k
    | 6, h1, h2 =>
      have h3 := (Prod.mk.inj (Option.some.inj h1)).2
      have h4 := Option.some.inj h2
      subst h3; subst h4; clear h1 h2
      refine P_iload_n d_107_150 rfl ?_
      refine P_iload_n d_107_151 rfl ?_
      refine A_icmp_ne (tgt := 159) d_107_152 rfl hf (fun hf => ?_) (fun hf => ?_)
      · refine A_iconst d_107_159 ic_0 ?_
        exact A_iret d_107_160 mr_107 hW hf k
      · refine A_iconst d_107_155 ic_1 ?_
        refine P_goto (tgt := 160) d_107_156 rfl ?_
        exact A_iret d_107_160 mr_107 hW hf k
    | 7, h1, h2 =>
      have h3 := (Prod.mk.inj (Option.some.inj h1)).2
      have h4 := Option.some.inj h2
      subst h3; subst h4; clear h1 h2
      refine P_iload_n d_107_139 rfl ?_
      refine P_iload_n d_107_140 rfl ?_
      refine A_icmp_le (tgt := 148) d_107_141 rfl hf (fun hf => ?_) (fun hf => ?_)
      · refine A_iconst d_107_148 ic_0 ?_
        exact A_iret d_107_149 mr_107 hW hf k
      · refine A_iconst d_107_144 ic_1 ?_
        refine P_goto (tgt := 149) d_107_145 rfl ?_
        exact A_iret d_107_149 mr_107 hW hf k
    | 8, h1, h2 =>
      have h3 := (Prod.mk.inj (Option.some.inj h1)).2
      have h4 := Option.some.inj h2
      subst h3; subst h4; clear h1 h2
      refine P_iload_n d_107_175 rfl ?_
      refine A_if_ne (tgt := 183) d_107_176 rfl hf (fun hf => ?_) (fun hf => ?_)
      · refine P_fgt [false, false, false] ?_
        exact t_Form_join_j183 k hW  hf
      · refine P_iload_n d_107_179 rfl ?_
        refine A_if_eq (tgt := 187) d_107_180 rfl hf (fun hf => ?_) (fun hf => ?_)
        · refine A_iconst d_107_187 ic_0 ?_
          exact A_iret d_107_188 mr_107 hW hf k
        · refine P_fgt [false, false, false] ?_
          exact t_Form_join_j183 k hW  hf
    | 9, h1, h2 =>
      have h3 := (Prod.mk.inj (Option.some.inj h1)).2
      have h4 := Option.some.inj h2
      subst h3; subst h4; clear h1 h2
      refine P_iload_n d_107_161 rfl ?_
      refine A_if_eq (tgt := 173) d_107_162 rfl hf (fun hf => ?_) (fun hf => ?_)
      · refine A_iconst d_107_173 ic_0 ?_
        exact A_iret d_107_174 mr_107 hW hf k
      · refine P_iload_n d_107_165 rfl ?_
        refine A_if_eq (tgt := 173) d_107_166 rfl hf (fun hf => ?_) (fun hf => ?_)
        · refine A_iconst d_107_173 ic_0 ?_
          exact A_iret d_107_174 mr_107 hW hf k
        · refine A_iconst d_107_169 ic_1 ?_
          refine P_goto (tgt := 174) d_107_170 rfl ?_
          exact A_iret d_107_174 mr_107 hW hf k
    | i + 10, h1, h2 => exact absurd h2 (by simp)
  · refine A_iconst d_107_189 ic_0 ?_
    exact A_iret d_107_190 mr_107 hW hf k
def f_Form_worth_j99 (rec : Int32 → Int32 → AM → Option (Int32 × AM)) (v0 : Nat) (v1 : Int32) (v2 : Int32) (s0 : Nat) (s1 : Int32) (s2 : Int32) (M : AM) : Option (Int32 × AM) :=
  ast 31 M s0 s1 s2 (fun M1 => rec v1 (v2 + 1) M1)
set_option maxRecDepth 20000 in
theorem t_Form_worth_j99 {G : GT} {d : Nat} {v0 : Nat} {v1 : Int32} {v2 : Int32} {s0 : Nat} {s1 : Int32} {s2 : Int32} {M : AM} {Q : AM → Option Value → Prop} {yo : Int32} {Mo : AM} {rec : Int32 → Int32 → AM → Option (Int32 × AM)} (hrec : ∀ (v1 : Int32) (v2 : Int32) (M : AM), WT M → rec v1 v2 M = some (yo, Mo) → PW G (d + 1) 105 4 [.ref v0, .int v1, .int v2, ux] [] M 0 0 Q) (k1 : WT Mo → PW G (d + 1) 105 144 [.ref v0, .int yo, ux, ux] [] Mo 0 0 Q) (hW : WT M) (hv0 : kd0 v0 = 3) (hs0 : kd0 s0 = 20 ∧ ln0 s0 = 31) (hf : f_Form_worth_j99 rec v0 v1 v2 s0 s1 s2 M = some (yo, Mo)) : PW G (d + 1) 105 99 [.ref v0, .int v1, .int v2, ux] [.int s2, .int s1, .ref s0] M 0 0 Q := by
  refine A_iast d_105_99 hs0.1 hs0.2 hW hf (fun hW hf => ?_)
  refine P_goto (tgt := 138) d_105_100 rfl ?_
  refine A_iinc d_105_138 ic_1 rfl ml_105 rfl rfl ?_
  refine P_goto (tgt := 4) d_105_141 rfl ?_
  exact hrec _ _ _ hW  hf
def f_Form_worth_j58 (rec : Int32 → Int32 → AM → Option (Int32 × AM)) (v0 : Nat) (v1 : Int32) (v2 : Int32) (s0 : Nat) (s1 : Int32) (s2 : Int32) (M : AM) : Option (Int32 × AM) :=
  ast 31 M s0 s1 s2 (fun M1 => rec (v1 + 1) (v2 + 1) M1)
set_option maxRecDepth 20000 in
theorem t_Form_worth_j58 {G : GT} {d : Nat} {v0 : Nat} {v1 : Int32} {v2 : Int32} {s0 : Nat} {s1 : Int32} {s2 : Int32} {M : AM} {Q : AM → Option Value → Prop} {yo : Int32} {Mo : AM} {rec : Int32 → Int32 → AM → Option (Int32 × AM)} (hrec : ∀ (v1 : Int32) (v2 : Int32) (M : AM), WT M → rec v1 v2 M = some (yo, Mo) → PW G (d + 1) 105 4 [.ref v0, .int v1, .int v2, ux] [] M 0 0 Q) (k1 : WT Mo → PW G (d + 1) 105 144 [.ref v0, .int yo, ux, ux] [] Mo 0 0 Q) (hW : WT M) (hv0 : kd0 v0 = 3) (hs0 : kd0 s0 = 20 ∧ ln0 s0 = 31) (hf : f_Form_worth_j58 rec v0 v1 v2 s0 s1 s2 M = some (yo, Mo)) : PW G (d + 1) 105 58 [.ref v0, .int v1, .int v2, ux] [.int s2, .int s1, .ref s0] M 0 0 Q := by
  refine A_iast d_105_58 hs0.1 hs0.2 hW hf (fun hW hf => ?_)
  refine A_iinc d_105_59 ic_1 rfl ml_105 rfl rfl ?_
  refine P_goto (tgt := 138) d_105_62 rfl ?_
  refine A_iinc d_105_138 ic_1 rfl ml_105 rfl rfl ?_
  refine P_goto (tgt := 4) d_105_141 rfl ?_
  exact hrec _ _ _ hW  hf
def f_Form_worth_j30 (rec : Int32 → Int32 → AM → Option (Int32 × AM)) (v0 : Nat) (v1 : Int32) (v2 : Int32) (v3 : Int32) (M : AM) : Option (Int32 × AM) :=
  if 31 ≤ v1 then rec v1 (v2 + 1) M else if v3 < 0 then bnd (f_Form_givenFor v0 (-v3) M) (fun r1 M2 => f_Form_worth_j58 rec v0 v1 v2 (v0 + 2) v1 r1 M2) else f_Form_worth_j58 rec v0 v1 v2 (v0 + 2) v1 v3 M
set_option maxRecDepth 20000 in
theorem t_Form_worth_j30 {G : GT} {d : Nat} {v0 : Nat} {v1 : Int32} {v2 : Int32} {v3 : Int32} {M : AM} {Q : AM → Option Value → Prop} {yo : Int32} {Mo : AM} {rec : Int32 → Int32 → AM → Option (Int32 × AM)} (hrec : ∀ (v1 : Int32) (v2 : Int32) (M : AM), WT M → rec v1 v2 M = some (yo, Mo) → PW G (d + 1) 105 4 [.ref v0, .int v1, .int v2, ux] [] M 0 0 Q) (k1 : WT Mo → PW G (d + 1) 105 144 [.ref v0, .int yo, ux, ux] [] Mo 0 0 Q) (hW : WT M) (hv0 : kd0 v0 = 3) (hf : f_Form_worth_j30 rec v0 v1 v2 v3 M = some (yo, Mo)) : PW G (d + 1) 105 30 [.ref v0, .int v1, .int v2, .int v3] [] M 0 0 Q := by
  refine P_iload_n d_105_30 rfl ?_
  refine P_aload_n d_105_31 rfl ?_
  refine A_gFr d_105_32 cn_105 fk_CordLoft_Formula_13 ft_3_2 hv0 hW ?_
  refine A_alen (v := 31) 19 d_105_35 (kr_3_2 hv0) (by decide) (by decide) (lr_3_2 hv0) (by decide +kernel) hW ?_
  refine A_icmp_ge (tgt := 138) d_105_36 rfl hf (fun hf => ?_) (fun hf => ?_)
  · refine A_iinc d_105_138 ic_1 rfl ml_105 rfl rfl ?_
    refine P_goto (tgt := 4) d_105_141 rfl ?_
    refine P_fgt [true, true, true, false] ?_
    exact hrec _ _ _ hW  hf
  · refine P_aload_n d_105_39 rfl ?_
    refine A_gFr d_105_40 cn_105 fk_CordLoft_Formula_13 ft_3_2 hv0 hW ?_
    refine P_iload_n d_105_43 rfl ?_
    refine P_iload_n d_105_44 rfl ?_
    refine A_if_lt (tgt := 52) d_105_45 rfl hf (fun hf => ?_) (fun hf => ?_)
    · refine P_aload_n d_105_52 rfl ?_
      refine P_iload_n d_105_53 rfl ?_
      refine P_ineg d_105_54 ?_
      refine A_V1 d_105_55 vk_105_28 ml_106 rfl hv0 hW rfl hf (fun r1 M2 hc hf => t_Form_givenFor hW hv0 hc (fun hW => ?_))
      refine P_fgt [true, true, true, false] ?_
      exact t_Form_worth_j58 hrec k1 hW hv0 ⟨(kr_3_2 hv0), (lr_3_2 hv0)⟩ hf
    · refine P_iload_n d_105_48 rfl ?_
      refine P_goto (tgt := 58) d_105_49 rfl ?_
      refine P_fgt [true, true, true, false] ?_
      exact t_Form_worth_j58 hrec k1 hW hv0 ⟨(kr_3_2 hv0), (lr_3_2 hv0)⟩ hf
def f_Form_worth_b4 (rec : Int32 → Int32 → AM → Option (Int32 × AM)) (v0 : Nat) (v1 : Int32) (v2 : Int32) (M : AM) : Option (Int32 × AM) :=
  if (gI M v0 1) ≤ v2 then some (v1, M) else ald 270 M (v0 + 1) v2 (fun x1 => if 0 ≤ x1 then f_Form_worth_j30 rec v0 v1 v2 x1 M else if (-140) < x1 then if x1 = (-139) then if v1 ≤ 0 then rec v1 (v2 + 1) M else ald 31 M (v0 + 2) (v1 - 1) (fun x7 => if x7 = 0 then f_Form_worth_j99 rec v0 v1 v2 (v0 + 2) (v1 - 1) 1 M else f_Form_worth_j99 rec v0 v1 v2 (v0 + 2) (v1 - 1) 0 M) else if v1 ≤ 1 then rec v1 (v2 + 1) M else ald 31 M (v0 + 2) ((v1 + (-1)) - 1) (fun x2 => ald 31 M (v0 + 2) (v1 + (-1)) (fun x3 => bnd (f_Form_join (-x1) x2 x3 M) (fun r4 M5 => ast 31 M5 (v0 + 2) ((v1 + (-1)) - 1) r4 (fun M6 => rec (v1 + (-1)) (v2 + 1) M6)))) else f_Form_worth_j30 rec v0 v1 v2 x1 M)
def f_Form_worth_l4 (v0 : Nat) : Nat → Int32 → Int32 → AM → Option (Int32 × AM)
  | 0, _, _, _ => none
  | n + 1, v1, v2, M => f_Form_worth_b4 (f_Form_worth_l4 v0 n) v0 v1 v2 M
set_option maxRecDepth 20000 in
theorem t_Form_worth_b4 {G : GT} {d : Nat} {v0 : Nat} {v1 : Int32} {v2 : Int32} {M : AM} {Q : AM → Option Value → Prop} {yo : Int32} {Mo : AM} {rec : Int32 → Int32 → AM → Option (Int32 × AM)} (hrec : ∀ (v1 : Int32) (v2 : Int32) (M : AM), WT M → rec v1 v2 M = some (yo, Mo) → PW G (d + 1) 105 4 [.ref v0, .int v1, .int v2, ux] [] M 0 0 Q) (k1 : WT Mo → PW G (d + 1) 105 144 [.ref v0, .int yo, ux, ux] [] Mo 0 0 Q) (hW : WT M) (hv0 : kd0 v0 = 3)  (hf : f_Form_worth_b4 rec v0 v1 v2 M = some (yo, Mo)) : PW G (d + 1) 105 4 [.ref v0, .int v1, .int v2, ux] [] M 0 0 Q := by
  refine P_iload_n d_105_4 rfl ?_
  refine P_aload_n d_105_5 rfl ?_
  refine A_gI d_105_6 cn_105 fk_CordLoft_Formula_19 hv0 hW ?_
  refine A_icmp_ge (tgt := 144) d_105_9 rfl hf (fun hf => ?_) (fun hf => ?_)
  · refine P_fgt [true, true, false, false] ?_
    cases hf
    exact k1 hW 
  · refine P_aload_n d_105_12 rfl ?_
    refine A_gFr d_105_13 cn_105 fk_CordLoft_Formula_9 ft_3_0 hv0 hW ?_
    refine P_iload_n d_105_16 rfl ?_
    refine A_iald d_105_17 (kr_3_1 hv0) (lr_3_1 hv0) hW hf (fun hf => ?_)
    refine A_istore_n d_105_18 ml_105 rfl rfl ?_
    refine P_iload_n d_105_19 rfl ?_
    refine A_if_ge (tgt := 30) d_105_20 rfl hf (fun hf => ?_) (fun hf => ?_)
    · exact t_Form_worth_j30 hrec k1 hW hv0 hf
    · refine P_iload_n d_105_23 rfl ?_
      refine P_sipush d_105_24 si_m140 ?_
      refine A_icmp_gt (tgt := 65) d_105_27 rfl hf (fun hf => ?_) (fun hf => ?_)
      · refine P_iload_n d_105_65 rfl ?_
        refine P_sipush d_105_66 si_m139 ?_
        refine A_icmp_ne (tgt := 103) d_105_69 rfl hf (fun hf => ?_) (fun hf => ?_)
        · refine P_iload_n d_105_103 rfl ?_
          refine A_iconst d_105_104 ic_1 ?_
          refine A_icmp_le (tgt := 138) d_105_105 rfl hf (fun hf => ?_) (fun hf => ?_)
          · refine A_iinc d_105_138 ic_1 rfl ml_105 rfl rfl ?_
            refine P_goto (tgt := 4) d_105_141 rfl ?_
            refine P_fgt [true, true, true, false] ?_
            exact hrec _ _ _ hW  hf
          · refine A_iinc d_105_108 ic_m1 rfl ml_105 rfl rfl ?_
            refine P_aload_n d_105_111 rfl ?_
            refine A_gFr d_105_112 cn_105 fk_CordLoft_Formula_13 ft_3_2 hv0 hW ?_
            refine P_iload_n d_105_115 rfl ?_
            refine A_iconst d_105_116 ic_1 ?_
            refine P_isub d_105_117 ?_
            refine P_iload_n d_105_118 rfl ?_
            refine P_ineg d_105_119 ?_
            refine P_aload_n d_105_120 rfl ?_
            refine A_gFr d_105_121 cn_105 fk_CordLoft_Formula_13 ft_3_2 hv0 hW ?_
            refine P_iload_n d_105_124 rfl ?_
            refine A_iconst d_105_125 ic_1 ?_
            refine P_isub d_105_126 ?_
            refine A_iald d_105_127 (kr_3_2 hv0) (lr_3_2 hv0) hW hf (fun hf => ?_)
            refine P_aload_n d_105_128 rfl ?_
            refine A_gFr d_105_129 cn_105 fk_CordLoft_Formula_13 ft_3_2 hv0 hW ?_
            refine P_iload_n d_105_132 rfl ?_
            refine A_iald d_105_133 (kr_3_2 hv0) (lr_3_2 hv0) hW hf (fun hf => ?_)
            refine A_S3 d_105_134 sk_105_32 ml_107 rfl rfl hf (fun r4 M5 hc hf => t_Form_join hW  hc (fun hW => ?_))
            refine A_iast d_105_137 (kr_3_2 hv0) (lr_3_2 hv0) hW hf (fun hW hf => ?_)
            refine A_iinc d_105_138 ic_1 rfl ml_105 rfl rfl ?_
            refine P_goto (tgt := 4) d_105_141 rfl ?_
            refine P_fgt [true, true, true, false] ?_
            exact hrec _ _ _ hW  hf
        · refine P_iload_n d_105_72 rfl ?_
          refine A_if_le (tgt := 138) d_105_73 rfl hf (fun hf => ?_) (fun hf => ?_)
          · refine A_iinc d_105_138 ic_1 rfl ml_105 rfl rfl ?_
            refine P_goto (tgt := 4) d_105_141 rfl ?_
            refine P_fgt [true, true, true, false] ?_
            exact hrec _ _ _ hW  hf
          · refine P_aload_n d_105_76 rfl ?_
            refine A_gFr d_105_77 cn_105 fk_CordLoft_Formula_13 ft_3_2 hv0 hW ?_
            refine P_iload_n d_105_80 rfl ?_
            refine A_iconst d_105_81 ic_1 ?_
            refine P_isub d_105_82 ?_
            refine P_aload_n d_105_83 rfl ?_
            refine A_gFr d_105_84 cn_105 fk_CordLoft_Formula_13 ft_3_2 hv0 hW ?_
            refine P_iload_n d_105_87 rfl ?_
            refine A_iconst d_105_88 ic_1 ?_
            refine P_isub d_105_89 ?_
            refine A_iald d_105_90 (kr_3_2 hv0) (lr_3_2 hv0) hW hf (fun hf => ?_)
            refine A_if_ne (tgt := 98) d_105_91 rfl hf (fun hf => ?_) (fun hf => ?_)
            · refine A_iconst d_105_98 ic_0 ?_
              refine P_fgt [true, true, true, false] ?_
              exact t_Form_worth_j99 hrec k1 hW hv0 ⟨(kr_3_2 hv0), (lr_3_2 hv0)⟩ hf
            · refine A_iconst d_105_94 ic_1 ?_
              refine P_goto (tgt := 99) d_105_95 rfl ?_
              refine P_fgt [true, true, true, false] ?_
              exact t_Form_worth_j99 hrec k1 hW hv0 ⟨(kr_3_2 hv0), (lr_3_2 hv0)⟩ hf
      · exact t_Form_worth_j30 hrec k1 hW hv0 hf
theorem t_Form_worth_l4 {G : GT} {d : Nat} {v0 : Nat} {Q : AM → Option Value → Prop} {yo : Int32} {Mo : AM} (k1 : WT Mo → PW G (d + 1) 105 144 [.ref v0, .int yo, ux, ux] [] Mo 0 0 Q) (hv0 : kd0 v0 = 3) : ∀ (z : Nat) (v1 : Int32) (v2 : Int32) (M : AM), WT M → f_Form_worth_l4 v0 z v1 v2 M = some (yo, Mo) → PW G (d + 1) 105 4 [.ref v0, .int v1, .int v2, ux] [] M 0 0 Q := by
  intro z
  induction z with
  | zero => intro v1 v2 M hW hf; cases hf
  | succ z ih => intro v1 v2 M hW hf; exact t_Form_worth_b4 (fun v1 v2 M hW hf => ih v1 v2 M hW hf) k1 hW hv0  hf
def f_Form_worth (a0 : Nat) (M : AM) : Option (Int32 × AM) :=
  bnd (f_Form_worth_l4 a0 fu 0 0 M) (fun y1 M2 => if y1 ≤ 0 then some (0, M2) else ald 31 M2 (a0 + 2) 0 (fun x3 => some (x3, M2)))
set_option maxRecDepth 20000 in
theorem t_Form_worth {G : GT} {d : Nat} {a0 : Nat} {M : AM} {Q : AM → Option Value → Prop} {r : Int32} {M' : AM} (hW : WT M) (ha0 : kd0 a0 = 3) (hf : f_Form_worth a0 M = some (r, M')) (k : WT M' → Q M' (some (.int r)))  : Cal G (d + 1) 105 [.ref a0] M Q := by
  refine A_enter ml_105 rfl ?_
  refine A_iconst d_105_0 ic_0 ?_
  refine A_istore_n d_105_1 ml_105 rfl rfl ?_
  refine A_iconst d_105_2 ic_0 ?_
  refine A_istore_n d_105_3 ml_105 rfl rfl ?_
  obtain ⟨y1, M2, hl, hf⟩ := bnd_some hf
  refine t_Form_worth_l4 (fun hW => ?_) ha0 fu _ _ _ hW  hl
  refine P_iload_n d_105_144 rfl ?_
  refine A_if_le (tgt := 157) d_105_145 rfl hf (fun hf => ?_) (fun hf => ?_)
  · refine A_iconst d_105_157 ic_0 ?_
    exact A_iret d_105_158 mr_105 hW hf k
  · refine P_aload_n d_105_148 rfl ?_
    refine A_gFr d_105_149 cn_105 fk_CordLoft_Formula_13 ft_3_2 ha0 hW ?_
    refine A_iconst d_105_152 ic_0 ?_
    refine A_iald d_105_153 (kr_3_2 ha0) (lr_3_2 ha0) hW hf (fun hf => ?_)
    refine P_goto (tgt := 158) d_105_154 rfl ?_
    exact A_iret d_105_158 mr_105 hW hf k
def f_Plan_duskWorth (a0 : Nat) (a1 : Int32) (a2 : Int32) (a3 : Int32) (a4 : Int32) (M : AM) : Option (Int32 × AM) :=
  bnd (f_Form_give (a0 + 9) 140 a2 M) (fun r1 M2 => bnd (f_Form_give (a0 + 9) 141 a3 M2) (fun r3 M4 => ald 8 M4 (a0 + 3) a1 (fun x5 => bnd (f_Int_bitCount x5 M4) (fun r6 M7 => bnd (f_Form_give (a0 + 9) 142 r6 M7) (fun r8 M9 => bnd (f_Form_give (a0 + 9) 143 a1 M9) (fun r10 M11 => ald 8 M11 (a0 + 2) a1 (fun x12 => bnd (f_Form_give (a0 + 9) 144 x12 M11) (fun r13 M14 => bnd (f_Form_give (a0 + 9) 145 a4 M14) (fun r15 M16 => bnd (f_Form_worth (a0 + 9) M16) (fun r17 M18 => some (r17, M18)))))))))))
set_option maxRecDepth 20000 in
theorem t_Plan_duskWorth {G : GT} {d : Nat} {a0 : Nat} {a1 : Int32} {a2 : Int32} {a3 : Int32} {a4 : Int32} {M : AM} {Q : AM → Option Value → Prop} {r : Int32} {M' : AM} (hW : WT M) (ha0 : kd0 a0 = 5) (hf : f_Plan_duskWorth a0 a1 a2 a3 a4 M = some (r, M')) (k : WT M' → Q M' (some (.int r)))  : Cal G (d + 2) 103 [.ref a0, .int a1, .int a2, .int a3, .int a4] M Q := by
  refine A_enter ml_103 rfl ?_
  refine P_aload_n d_103_0 rfl ?_
  refine A_gFr d_103_1 cn_103 fk_CordLoft_Plan_40 ft_5_11 ha0 hW ?_
  refine P_sipush d_103_4 si_140 ?_
  refine P_iload_n d_103_7 rfl ?_
  refine A_V2 d_103_8 vk_103_93 ml_104 rfl (kr_5_9 ha0) hW rfl hf (fun r1 M2 hc hf => t_Form_give hW (kr_5_9 ha0) hc (fun hW => ?_))
  refine P_aload_n d_103_11 rfl ?_
  refine A_gFr d_103_12 cn_103 fk_CordLoft_Plan_40 ft_5_11 ha0 hW ?_
  refine P_sipush d_103_15 si_141 ?_
  refine P_iload_n d_103_18 rfl ?_
  refine A_V2 d_103_19 vk_103_93 ml_104 rfl (kr_5_9 ha0) hW rfl hf (fun r3 M4 hc hf => t_Form_give hW (kr_5_9 ha0) hc (fun hW => ?_))
  refine P_aload_n d_103_22 rfl ?_
  refine A_gFr d_103_23 cn_103 fk_CordLoft_Plan_40 ft_5_11 ha0 hW ?_
  refine P_sipush d_103_26 si_142 ?_
  refine P_aload_n d_103_29 rfl ?_
  refine A_gFr d_103_30 cn_103 fk_CordLoft_Plan_19 ft_5_4 ha0 hW ?_
  refine P_iload_n d_103_33 rfl ?_
  refine A_iald d_103_34 (kr_5_3 ha0) (lr_5_3 ha0) hW hf (fun hf => ?_)
  refine A_S1 d_103_35 sk_103_81 ml_92 rfl rfl hf (fun r6 M7 hc hf => t_Int_bitCount hW  hc (fun hW => ?_))
  refine A_V2 d_103_38 vk_103_93 ml_104 rfl (kr_5_9 ha0) hW rfl hf (fun r8 M9 hc hf => t_Form_give hW (kr_5_9 ha0) hc (fun hW => ?_))
  refine P_aload_n d_103_41 rfl ?_
  refine A_gFr d_103_42 cn_103 fk_CordLoft_Plan_40 ft_5_11 ha0 hW ?_
  refine P_sipush d_103_45 si_143 ?_
  refine P_iload_n d_103_48 rfl ?_
  refine A_V2 d_103_49 vk_103_93 ml_104 rfl (kr_5_9 ha0) hW rfl hf (fun r10 M11 hc hf => t_Form_give hW (kr_5_9 ha0) hc (fun hW => ?_))
  refine P_aload_n d_103_52 rfl ?_
  refine A_gFr d_103_53 cn_103 fk_CordLoft_Plan_40 ft_5_11 ha0 hW ?_
  refine P_sipush d_103_56 si_144 ?_
  refine P_aload_n d_103_59 rfl ?_
  refine A_gFr d_103_60 cn_103 fk_CordLoft_Plan_15 ft_5_3 ha0 hW ?_
  refine P_iload_n d_103_63 rfl ?_
  refine A_iald d_103_64 (kr_5_2 ha0) (lr_5_2 ha0) hW hf (fun hf => ?_)
  refine A_V2 d_103_65 vk_103_93 ml_104 rfl (kr_5_9 ha0) hW rfl hf (fun r13 M14 hc hf => t_Form_give hW (kr_5_9 ha0) hc (fun hW => ?_))
  refine P_aload_n d_103_68 rfl ?_
  refine A_gFr d_103_69 cn_103 fk_CordLoft_Plan_40 ft_5_11 ha0 hW ?_
  refine P_sipush d_103_72 si_145 ?_
  refine P_iload d_103_75 rfl ?_
  refine A_V2 d_103_77 vk_103_93 ml_104 rfl (kr_5_9 ha0) hW rfl hf (fun r15 M16 hc hf => t_Form_give hW (kr_5_9 ha0) hc (fun hW => ?_))
  refine P_aload_n d_103_80 rfl ?_
  refine A_gFr d_103_81 cn_103 fk_CordLoft_Plan_40 ft_5_11 ha0 hW ?_
  refine A_V0 d_103_84 vk_103_97 ml_105 rfl (kr_5_9 ha0) hW rfl hf (fun r17 M18 hc hf => t_Form_worth hW (kr_5_9 ha0) hc (fun hW => ?_))
  exact A_iret d_103_87 mr_103 hW hf k
def f_Plan_afterDusk_j108 (rec : Int32 → Int32 → AM → Option (Int32 × AM)) (v0 : Nat) (v1 : Int32) (v2 : Int32) (v3 : Int32) (v4 : Int32) (v7 : Int32) (M : AM) : Option (Int32 × AM) :=
  ald 128 M (v0 + 14) v7 (fun x1 => if x1 = 0 then rec v3 (v4 + 1) M else rec (v3 ^^^ ((1 : Int32) <<< (v4 &&& 31))) (v4 + 1) M)
set_option maxRecDepth 20000 in
theorem t_Plan_afterDusk_j108 {G : GT} {d : Nat} {v0 : Nat} {v1 : Int32} {v2 : Int32} {v3 : Int32} {v4 : Int32} {v7 : Int32} {M : AM} {Q : AM → Option Value → Prop} {yo : Int32} {Mo : AM} {rec : Int32 → Int32 → AM → Option (Int32 × AM)} (hrec : ∀ (v3 : Int32) (v4 : Int32) (M : AM), WT M → rec v3 v4 M = some (yo, Mo) → PW G (d + 3) 101 17 [.ref v0, .int v1, .int v2, .int v3, .int v4, ux, ux, ux] [] M 0 0 Q) (k1 : WT Mo → PW G (d + 3) 101 131 [ux, ux, ux, .int yo, ux, ux, ux, ux] [] Mo 0 0 Q) (hW : WT M) (hv0 : kd0 v0 = 5) (hf : f_Plan_afterDusk_j108 rec v0 v1 v2 v3 v4 v7 M = some (yo, Mo)) : PW G (d + 3) 101 108 [.ref v0, .int v1, .int v2, .int v3, .int v4, ux, ux, .int v7] [] M 0 0 Q := by
  refine P_aload_n d_101_108 rfl ?_
  refine A_gFr d_101_109 cn_101 fk_CordLoft_Plan_47 ft_5_13 hv0 hW ?_
  refine P_iload d_101_112 rfl ?_
  refine A_zald d_101_114 (kr_5_14 hv0) (lr_5_14 hv0) hW hf (fun hf => ?_)
  refine A_if_eq (tgt := 125) d_101_115 rfl hf (fun hf => ?_) (fun hf => ?_)
  · refine A_iinc d_101_125 ic_1 rfl ml_101 rfl rfl ?_
    refine P_goto (tgt := 17) d_101_128 rfl ?_
    refine P_fgt [true, true, true, true, true, false, false, false] ?_
    exact hrec _ _ _ hW  hf
  · refine P_iload_n d_101_118 rfl ?_
    refine A_iconst d_101_119 ic_1 ?_
    refine P_iload d_101_120 rfl ?_
    refine P_ishl d_101_122 ?_
    refine P_ixor d_101_123 ?_
    refine A_istore_n d_101_124 ml_101 rfl rfl ?_
    refine A_iinc d_101_125 ic_1 rfl ml_101 rfl rfl ?_
    refine P_goto (tgt := 17) d_101_128 rfl ?_
    refine P_fgt [true, true, true, true, true, false, false, false] ?_
    exact hrec _ _ _ hW  hf
def f_Plan_afterDusk_j107 (rec : Int32 → Int32 → AM → Option (Int32 × AM)) (v0 : Nat) (v1 : Int32) (v2 : Int32) (v3 : Int32) (v4 : Int32) (v7 : Int32) (s0 : Nat) (s1 : Int32) (s2 : Int32) (M : AM) : Option (Int32 × AM) :=
  ckB s2 (ast 128 M s0 s1 s2 (fun M1 => f_Plan_afterDusk_j108 rec v0 v1 v2 v3 v4 v7 M1))
set_option maxRecDepth 20000 in
theorem t_Plan_afterDusk_j107 {G : GT} {d : Nat} {v0 : Nat} {v1 : Int32} {v2 : Int32} {v3 : Int32} {v4 : Int32} {v7 : Int32} {s0 : Nat} {s1 : Int32} {s2 : Int32} {M : AM} {Q : AM → Option Value → Prop} {yo : Int32} {Mo : AM} {rec : Int32 → Int32 → AM → Option (Int32 × AM)} (hrec : ∀ (v3 : Int32) (v4 : Int32) (M : AM), WT M → rec v3 v4 M = some (yo, Mo) → PW G (d + 3) 101 17 [.ref v0, .int v1, .int v2, .int v3, .int v4, ux, ux, ux] [] M 0 0 Q) (k1 : WT Mo → PW G (d + 3) 101 131 [ux, ux, ux, .int yo, ux, ux, ux, ux] [] Mo 0 0 Q) (hW : WT M) (hv0 : kd0 v0 = 5) (hs0 : kd0 s0 = 23 ∧ ln0 s0 = 128) (hf : f_Plan_afterDusk_j107 rec v0 v1 v2 v3 v4 v7 s0 s1 s2 M = some (yo, Mo)) : PW G (d + 3) 101 107 [.ref v0, .int v1, .int v2, .int v3, .int v4, ux, ux, .int v7] [.int s2, .int s1, .ref s0] M 0 0 Q := by
  refine A_ckB hf (fun hb2 hf => ?_)
  refine A_zast d_101_107 hs0.1 hs0.2 hW hb2 hf (fun hW hf => ?_)
  exact t_Plan_afterDusk_j108 hrec k1 hW hv0 hf
def f_Plan_afterDusk_b17 (rec : Int32 → Int32 → AM → Option (Int32 × AM)) (v0 : Nat) (v1 : Int32) (v2 : Int32) (v3 : Int32) (v4 : Int32) (M : AM) : Option (Int32 × AM) :=
  if (gI M v0 0) ≤ v4 then some (v3, M) else ald 8 M (v0 + 4) v4 (fun x1 => bnd (f_Int_bitCount (v1 &&& x1) M) (fun r2 M3 => ald 128 M3 (v0 + 13) ((((v4 * 2) + ((v1 >>> (v4 &&& 31)) &&& 1)) * 8) + r2) (fun x4 => if x4 = v2 then f_Plan_afterDusk_j108 rec v0 v1 v2 v3 v4 ((((v4 * 2) + ((v1 >>> (v4 &&& 31)) &&& 1)) * 8) + r2) M3 else ast 128 M3 (v0 + 13) ((((v4 * 2) + ((v1 >>> (v4 &&& 31)) &&& 1)) * 8) + r2) v2 (fun M5 => bnd (f_Plan_duskWorth v0 v4 ((v1 >>> (v4 &&& 31)) &&& 1) r2 v2 M5) (fun r6 M7 => if r6 ≤ 0 then f_Plan_afterDusk_j107 rec v0 v1 v2 v3 v4 ((((v4 * 2) + ((v1 >>> (v4 &&& 31)) &&& 1)) * 8) + r2) (v0 + 14) ((((v4 * 2) + ((v1 >>> (v4 &&& 31)) &&& 1)) * 8) + r2) 0 M7 else f_Plan_afterDusk_j107 rec v0 v1 v2 v3 v4 ((((v4 * 2) + ((v1 >>> (v4 &&& 31)) &&& 1)) * 8) + r2) (v0 + 14) ((((v4 * 2) + ((v1 >>> (v4 &&& 31)) &&& 1)) * 8) + r2) 1 M7)))))
def f_Plan_afterDusk_l17 (v0 : Nat) (v1 : Int32) (v2 : Int32) : Nat → Int32 → Int32 → AM → Option (Int32 × AM)
  | 0, _, _, _ => none
  | n + 1, v3, v4, M => f_Plan_afterDusk_b17 (f_Plan_afterDusk_l17 v0 v1 v2 n) v0 v1 v2 v3 v4 M
set_option maxRecDepth 20000 in
theorem t_Plan_afterDusk_b17 {G : GT} {d : Nat} {v0 : Nat} {v1 : Int32} {v2 : Int32} {v3 : Int32} {v4 : Int32} {M : AM} {Q : AM → Option Value → Prop} {yo : Int32} {Mo : AM} {rec : Int32 → Int32 → AM → Option (Int32 × AM)} (hrec : ∀ (v3 : Int32) (v4 : Int32) (M : AM), WT M → rec v3 v4 M = some (yo, Mo) → PW G (d + 3) 101 17 [.ref v0, .int v1, .int v2, .int v3, .int v4, ux, ux, ux] [] M 0 0 Q) (k1 : WT Mo → PW G (d + 3) 101 131 [ux, ux, ux, .int yo, ux, ux, ux, ux] [] Mo 0 0 Q) (hW : WT M) (hv0 : kd0 v0 = 5)  (hf : f_Plan_afterDusk_b17 rec v0 v1 v2 v3 v4 M = some (yo, Mo)) : PW G (d + 3) 101 17 [.ref v0, .int v1, .int v2, .int v3, .int v4, ux, ux, ux] [] M 0 0 Q := by
  refine P_iload d_101_17 rfl ?_
  refine P_aload_n d_101_19 rfl ?_
  refine A_gI d_101_20 cn_101 fk_CordLoft_Plan_51 hv0 hW ?_
  refine A_icmp_ge (tgt := 131) d_101_23 rfl hf (fun hf => ?_) (fun hf => ?_)
  · refine P_fgt [false, false, false, true, false, false, false, false] ?_
    cases hf
    exact k1 hW 
  · refine P_iload_n d_101_26 rfl ?_
    refine P_iload d_101_27 rfl ?_
    refine P_ishr d_101_29 ?_
    refine A_iconst d_101_30 ic_1 ?_
    refine P_iand d_101_31 ?_
    refine A_istore d_101_32 ml_101 rfl rfl ?_
    refine P_iload_n d_101_34 rfl ?_
    refine P_aload_n d_101_35 rfl ?_
    refine A_gFr d_101_36 cn_101 fk_CordLoft_Plan_22 ft_5_5 hv0 hW ?_
    refine P_iload d_101_39 rfl ?_
    refine A_iald d_101_41 (kr_5_4 hv0) (lr_5_4 hv0) hW hf (fun hf => ?_)
    refine P_iand d_101_42 ?_
    refine A_S1 d_101_43 sk_101_81 ml_92 rfl rfl hf (fun r2 M3 hc hf => t_Int_bitCount hW  hc (fun hW => ?_))
    refine A_istore d_101_46 ml_101 rfl rfl ?_
    refine P_iload d_101_48 rfl ?_
    refine A_iconst d_101_50 ic_2 ?_
    refine P_imul d_101_51 ?_
    refine P_iload d_101_52 rfl ?_
    refine P_iadd d_101_54 ?_
    refine P_bipush d_101_55 bi_8 ?_
    refine P_imul d_101_57 ?_
    refine P_iload d_101_58 rfl ?_
    refine P_iadd d_101_60 ?_
    refine A_istore d_101_61 ml_101 rfl rfl ?_
    refine P_aload_n d_101_63 rfl ?_
    refine A_gFr d_101_64 cn_101 fk_CordLoft_Plan_44 ft_5_12 hv0 hW ?_
    refine P_iload d_101_67 rfl ?_
    refine A_iald d_101_69 (kr_5_13 hv0) (lr_5_13 hv0) hW hf (fun hf => ?_)
    refine P_iload_n d_101_70 rfl ?_
    refine A_icmp_eq (tgt := 108) d_101_71 rfl hf (fun hf => ?_) (fun hf => ?_)
    · refine P_fgt [true, true, true, true, true, false, false, true] ?_
      exact t_Plan_afterDusk_j108 hrec k1 hW hv0 hf
    · refine P_aload_n d_101_74 rfl ?_
      refine A_gFr d_101_75 cn_101 fk_CordLoft_Plan_44 ft_5_12 hv0 hW ?_
      refine P_iload d_101_78 rfl ?_
      refine P_iload_n d_101_80 rfl ?_
      refine A_iast d_101_81 (kr_5_13 hv0) (lr_5_13 hv0) hW hf (fun hW hf => ?_)
      refine P_aload_n d_101_82 rfl ?_
      refine A_gFr d_101_83 cn_101 fk_CordLoft_Plan_47 ft_5_13 hv0 hW ?_
      refine P_iload d_101_86 rfl ?_
      refine P_aload_n d_101_88 rfl ?_
      refine P_iload d_101_89 rfl ?_
      refine P_iload d_101_91 rfl ?_
      refine P_iload d_101_93 rfl ?_
      refine P_iload_n d_101_95 rfl ?_
      refine A_V4 d_101_96 vk_101_87 ml_103 rfl hv0 hW rfl hf (fun r6 M7 hc hf => t_Plan_duskWorth hW hv0 hc (fun hW => ?_))
      refine A_if_le (tgt := 106) d_101_99 rfl hf (fun hf => ?_) (fun hf => ?_)
      · refine A_iconst d_101_106 ic_0 ?_
        refine P_fgt [true, true, true, true, true, false, false, true] ?_
        exact t_Plan_afterDusk_j107 hrec k1 hW hv0 ⟨(kr_5_14 hv0), (lr_5_14 hv0)⟩ hf
      · refine A_iconst d_101_102 ic_1 ?_
        refine P_goto (tgt := 107) d_101_103 rfl ?_
        refine P_fgt [true, true, true, true, true, false, false, true] ?_
        exact t_Plan_afterDusk_j107 hrec k1 hW hv0 ⟨(kr_5_14 hv0), (lr_5_14 hv0)⟩ hf
theorem t_Plan_afterDusk_l17 {G : GT} {d : Nat} {v0 : Nat} {v1 : Int32} {v2 : Int32} {Q : AM → Option Value → Prop} {yo : Int32} {Mo : AM} (k1 : WT Mo → PW G (d + 3) 101 131 [ux, ux, ux, .int yo, ux, ux, ux, ux] [] Mo 0 0 Q) (hv0 : kd0 v0 = 5) : ∀ (z : Nat) (v3 : Int32) (v4 : Int32) (M : AM), WT M → f_Plan_afterDusk_l17 v0 v1 v2 z v3 v4 M = some (yo, Mo) → PW G (d + 3) 101 17 [.ref v0, .int v1, .int v2, .int v3, .int v4, ux, ux, ux] [] M 0 0 Q := by
  intro z
  induction z with
  | zero => intro v3 v4 M hW hf; cases hf
  | succ z ih => intro v3 v4 M hW hf; exact t_Plan_afterDusk_b17 (fun v3 v4 M hW hf => ih v3 v4 M hW hf) k1 hW hv0  hf
def f_Plan_afterDusk (a0 : Nat) (a1 : Int32) (a2 : Int32) (M : AM) : Option (Int32 × AM) :=
  bnd (f_Form_isEmpty (a0 + 9) M) (fun r1 M2 => if r1 = 0 then bnd (f_Plan_afterDusk_l17 a0 a1 a2 fu a1 0 M2) (fun y3 M4 => some (y3, M4)) else some (a1, M2))
set_option maxRecDepth 20000 in
theorem t_Plan_afterDusk {G : GT} {d : Nat} {a0 : Nat} {a1 : Int32} {a2 : Int32} {M : AM} {Q : AM → Option Value → Prop} {r : Int32} {M' : AM} (hW : WT M) (ha0 : kd0 a0 = 5) (hf : f_Plan_afterDusk a0 a1 a2 M = some (r, M')) (k : WT M' → Q M' (some (.int r)))  : Cal G (d + 3) 101 [.ref a0, .int a1, .int a2] M Q := by
  refine A_enter ml_101 rfl ?_
  refine P_aload_n d_101_0 rfl ?_
  refine A_gFr d_101_1 cn_101 fk_CordLoft_Plan_40 ft_5_11 ha0 hW ?_
  refine A_V0 d_101_4 vk_101_77 ml_102 rfl (kr_5_9 ha0) hW rfl hf (fun r1 M2 hc hf => t_Form_isEmpty hW (kr_5_9 ha0) hc (fun hW hb2 => ?_))
  refine A_if_eq (tgt := 12) d_101_7 rfl hf (fun hf => ?_) (fun hf => ?_)
  · refine P_iload_n d_101_12 rfl ?_
    refine A_istore_n d_101_13 ml_101 rfl rfl ?_
    refine A_iconst d_101_14 ic_0 ?_
    refine A_istore d_101_15 ml_101 rfl rfl ?_
    obtain ⟨y3, M4, hl, hf⟩ := bnd_some hf
    refine t_Plan_afterDusk_l17 (fun hW => ?_) ha0 fu _ _ _ hW  hl
    refine P_iload_n d_101_131 rfl ?_
    exact A_iret d_101_132 mr_101 hW hf k
  · refine P_iload_n d_101_10 rfl ?_
    exact A_iret d_101_11 mr_101 hW hf k
def f_State_passDusk_j80 (v0 : Nat) (M : AM) : Option (Unit × AM) :=
  wI M v0 3 ((gI M v0 3) + 1) (fun M1 => some ((), M1))
set_option maxRecDepth 20000 in
theorem t_State_passDusk_j80 {G : GT} {d : Nat} {v0 : Nat} {M : AM} {Q : AM → Option Value → Prop} {r : Unit} {M' : AM} (k : WT M' → Q M' none) (hW : WT M) (hv0 : kd0 v0 = 9) (hf : f_State_passDusk_j80 v0 M = some (r, M')) : PW G (d + 4) 100 80 [.ref v0, ux, ux] [] M 0 0 Q := by
  refine P_aload_n d_100_80 rfl ?_
  refine P_dup d_100_81 rfl ?_
  refine A_gI d_100_82 cn_100 fk_CordLoft_State_24 hv0 hW ?_
  refine A_iconst d_100_85 ic_1 ?_
  refine P_iadd d_100_86 ?_
  refine A_pI d_100_87 cn_100 fp_CordLoft_State_24 hv0 hW hf (fun hW hf => ?_)
  exact A_ret d_100_90 mr_100 hW hf k
def f_State_passDusk (a0 : Nat) (a1 : Nat) (a2 : Int32) (M : AM) : Option (Unit × AM) :=
  bnd (f_Plan_afterDusk a1 (gI M a0 0) (gI M a0 3) M) (fun r1 M2 => wI M2 a0 0 r1 (fun M3 => wI M3 a0 4 ((((gI M3 a0 4) * 137) + 71) % 1000) (fun M4 => if a2 = 0 then f_State_passDusk_j80 a0 M4 else if (gI M4 a1 0) ≤ 0 then f_State_passDusk_j80 a0 M4 else if (gI M4 a1 15) ≤ ((gI M4 a0 4) % 100) then f_State_passDusk_j80 a0 M4 else dvz (gI M4 a1 0) (wI M4 a0 0 ((gI M4 a0 0) ^^^ ((1 : Int32) <<< (((gI M4 a0 4) % (gI M4 a1 0)) &&& 31))) (fun M5 => f_State_passDusk_j80 a0 M5)))))
set_option maxRecDepth 20000 in
theorem t_State_passDusk {G : GT} {d : Nat} {a0 : Nat} {a1 : Nat} {a2 : Int32} {M : AM} {Q : AM → Option Value → Prop} {r : Unit} {M' : AM} (hW : WT M) (ha0 : kd0 a0 = 9) (ha1 : kd0 a1 = 5) (hf : f_State_passDusk a0 a1 a2 M = some (r, M')) (k : WT M' → Q M' none)  : Cal G (d + 4) 100 [.ref a0, .ref a1, .int a2] M Q := by
  refine A_enter ml_100 rfl ?_
  refine P_aload_n d_100_0 rfl ?_
  refine P_aload_n d_100_1 rfl ?_
  refine P_aload_n d_100_2 rfl ?_
  refine A_gI d_100_3 cn_100 fk_CordLoft_State_13 ha0 hW ?_
  refine P_aload_n d_100_6 rfl ?_
  refine A_gI d_100_7 cn_100 fk_CordLoft_State_24 ha0 hW ?_
  refine A_V2 d_100_10 vk_100_33 ml_101 rfl ha1 hW rfl hf (fun r1 M2 hc hf => t_Plan_afterDusk hW ha1 hc (fun hW => ?_))
  refine A_pI d_100_13 cn_100 fp_CordLoft_State_13 ha0 hW hf (fun hW hf => ?_)
  refine P_aload_n d_100_16 rfl ?_
  refine P_aload_n d_100_17 rfl ?_
  refine A_gI d_100_18 cn_100 fk_CordLoft_State_30 ha0 hW ?_
  refine P_sipush d_100_21 si_137 ?_
  refine P_imul d_100_24 ?_
  refine P_bipush d_100_25 bi_71 ?_
  refine P_iadd d_100_27 ?_
  refine P_sipush d_100_28 si_1000 ?_
  refine P_irem d_100_31 nz_1000 ?_
  refine A_pI d_100_32 cn_100 fp_CordLoft_State_30 ha0 hW hf (fun hW hf => ?_)
  refine P_iload_n d_100_35 rfl ?_
  refine A_if_eq (tgt := 80) d_100_36 rfl hf (fun hf => ?_) (fun hf => ?_)
  · refine P_fgt [true, false, false] ?_
    exact t_State_passDusk_j80 k hW ha0 hf
  · refine P_aload_n d_100_39 rfl ?_
    refine A_gI d_100_40 cn_100 fk_CordLoft_State_37 ha1 hW ?_
    refine A_if_le (tgt := 80) d_100_43 rfl hf (fun hf => ?_) (fun hf => ?_)
    · refine P_fgt [true, false, false] ?_
      exact t_State_passDusk_j80 k hW ha0 hf
    · refine P_aload_n d_100_46 rfl ?_
      refine A_gI d_100_47 cn_100 fk_CordLoft_State_30 ha0 hW ?_
      refine P_bipush d_100_50 bi_100 ?_
      refine P_irem d_100_52 nz_100 ?_
      refine P_aload_n d_100_53 rfl ?_
      refine A_gI d_100_54 cn_100 fk_CordLoft_State_40 ha1 hW ?_
      refine A_icmp_ge (tgt := 80) d_100_57 rfl hf (fun hf => ?_) (fun hf => ?_)
      · refine P_fgt [true, false, false] ?_
        exact t_State_passDusk_j80 k hW ha0 hf
      · refine P_aload_n d_100_60 rfl ?_
        refine P_dup d_100_61 rfl ?_
        refine A_gI d_100_62 cn_100 fk_CordLoft_State_13 ha0 hW ?_
        refine A_iconst d_100_65 ic_1 ?_
        refine P_aload_n d_100_66 rfl ?_
        refine A_gI d_100_67 cn_100 fk_CordLoft_State_30 ha0 hW ?_
        refine P_aload_n d_100_70 rfl ?_
        refine A_gI d_100_71 cn_100 fk_CordLoft_State_37 ha1 hW ?_
        refine A_irem d_100_74 hf (fun hf => ?_)
        refine P_ishl d_100_75 ?_
        refine P_ixor d_100_76 ?_
        refine A_pI d_100_77 cn_100 fp_CordLoft_State_13 ha0 hW hf (fun hW hf => ?_)
        refine P_fgt [true, false, false] ?_
        exact t_State_passDusk_j80 k hW ha0 hf
def f_C_dusk  (M : AM) : Option (Int32 × AM) :=
  bnd (f_Acts_current  M) (fun r1 M2 => if (gI M2 r1 3) < 999 then bnd (f_Acts_open  M2) (fun r3 M4 => ckK (gR M4 0 3) 5 (bnd (f_State_passDusk r3 (gR M4 0 3) 1 M4) (fun r6 M7 => some (gI M7 r3 0, M7)))) else some ((-1), M2))
set_option maxRecDepth 20000 in
theorem t_C_dusk {G : GT} {d : Nat}  {M : AM} {Q : AM → Option Value → Prop} {r : Int32} {M' : AM} (hW : WT M)  (hf : f_C_dusk  M = some (r, M')) (k : WT M' → Q M' (some (.int r)))  : Cal G (d + 5) 99 [.ref 0] M Q := by
  refine A_enter ml_99 rfl ?_
  refine P_aload_n d_99_0 rfl ?_
  refine A_gF d_99_1 cn_99 fk_CordLoft_45 ft_12_5 k_0 hW ?_
  refine A_V0 d_99_4 vk_99_114 ml_78 rfl k_38 hW rfl hf (fun r1 M2 hc hf => t_Acts_current hW  hc (fun hW hb2 => ?_))
  refine A_gI d_99_7 cn_99 fk_CordLoft_185 hb2 hW ?_
  refine P_sipush d_99_10 si_999 ?_
  refine A_icmp_lt (tgt := 18) d_99_13 rfl hf (fun hf => ?_) (fun hf => ?_)
  · refine P_aload_n d_99_18 rfl ?_
    refine A_gF d_99_19 cn_99 fk_CordLoft_45 ft_12_5 k_0 hW ?_
    refine A_V0 d_99_22 vk_99_176 ml_93 rfl k_38 hW rfl hf (fun r3 M4 hc hf => t_Acts_open hW  hc (fun hW hb4 => ?_))
    refine A_astore_n d_99_25 ml_99 rfl rfl ?_
    refine P_aload_n d_99_26 rfl ?_
    refine P_aload_n d_99_27 rfl ?_
    refine A_gM d_99_28 cn_99 fk_CordLoft_35 k_0 hW hf (fun hk5 hf => ?_)
    refine A_iconst d_99_31 ic_1 ?_
    refine A_V2 d_99_32 vk_99_188 ml_100 rfl hb4 hW rfl hf (fun r6 M7 hc hf => t_State_passDusk hW hb4 hk5 hc (fun hW => ?_))
    refine P_aload_n d_99_35 rfl ?_
    refine A_gI d_99_36 cn_99 fk_CordLoft_140 hb4 hW ?_
    exact A_iret d_99_39 mr_99 hW hf k
  · refine A_iconst d_99_16 ic_m1 ?_
    exact A_iret d_99_17 mr_99 hW hf k
def f_Acts_takeBack  (M : AM) : Option (Int32 × AM) :=
  if 0 < (gI M 38 1) then wI M 38 1 ((gI M 38 1) - 1) (fun M1 => some (1, M1)) else some (0, M)
set_option maxRecDepth 20000 in
theorem t_Acts_takeBack {G : GT} {d : Nat}  {M : AM} {Q : AM → Option Value → Prop} {r : Int32} {M' : AM} (hW : WT M)  (hf : f_Acts_takeBack  M = some (r, M')) (k : WT M' → (r = 0 ∨ r = 1) → Q M' (some (.int r)))  : Cal G d 109 [.ref 38] M Q := by
  refine A_enter ml_109 rfl ?_
  refine P_aload_n d_109_0 rfl ?_
  refine A_gI d_109_1 cn_109 fk_CordLoft_Acts_16 k_38 hW ?_
  refine A_if_gt (tgt := 9) d_109_4 rfl hf (fun hf => ?_) (fun hf => ?_)
  · refine P_aload_n d_109_9 rfl ?_
    refine P_dup d_109_10 rfl ?_
    refine A_gI d_109_11 cn_109 fk_CordLoft_Acts_16 k_38 hW ?_
    refine A_iconst d_109_14 ic_1 ?_
    refine P_isub d_109_15 ?_
    refine A_pI d_109_16 cn_109 fp_CordLoft_Acts_16 k_38 hW hf (fun hW hf => ?_)
    refine A_iconst d_109_19 ic_1 ?_
    exact A_zret d_109_20 mr_109 hW (Or.inr rfl) hf k
  · refine A_iconst d_109_7 ic_0 ?_
    exact A_zret d_109_8 mr_109 hW (Or.inl rfl) hf k
def f_C_undo  (M : AM) : Option (Int32 × AM) :=
  bnd (f_Acts_takeBack  M) (fun r1 M2 => some (r1, M2))
set_option maxRecDepth 20000 in
theorem t_C_undo {G : GT} {d : Nat}  {M : AM} {Q : AM → Option Value → Prop} {r : Int32} {M' : AM} (hW : WT M)  (hf : f_C_undo  M = some (r, M')) (k : WT M' → (r = 0 ∨ r = 1) → Q M' (some (.int r)))  : Cal G (d + 1) 108 [.ref 0] M Q := by
  refine A_enter ml_108 rfl ?_
  refine P_aload_n d_108_0 rfl ?_
  refine A_gF d_108_1 cn_108 fk_CordLoft_45 ft_12_5 k_0 hW ?_
  refine A_V0 d_108_4 vk_108_192 ml_109 rfl k_38 hW rfl hf (fun r1 M2 hc hf => t_Acts_takeBack hW  hc (fun hW hb2 => ?_))
  exact A_zret d_108_7 mr_108 hW hb2 hf k
def f_Acts_takeAgain  (M : AM) : Option (Int32 × AM) :=
  if (gI M 38 1) < (gI M 38 2) then wI M 38 1 ((gI M 38 1) + 1) (fun M1 => some (1, M1)) else some (0, M)
set_option maxRecDepth 20000 in
theorem t_Acts_takeAgain {G : GT} {d : Nat}  {M : AM} {Q : AM → Option Value → Prop} {r : Int32} {M' : AM} (hW : WT M)  (hf : f_Acts_takeAgain  M = some (r, M')) (k : WT M' → (r = 0 ∨ r = 1) → Q M' (some (.int r)))  : Cal G d 111 [.ref 38] M Q := by
  refine A_enter ml_111 rfl ?_
  refine P_aload_n d_111_0 rfl ?_
  refine A_gI d_111_1 cn_111 fk_CordLoft_Acts_16 k_38 hW ?_
  refine P_aload_n d_111_4 rfl ?_
  refine A_gI d_111_5 cn_111 fk_CordLoft_Acts_23 k_38 hW ?_
  refine A_icmp_lt (tgt := 13) d_111_8 rfl hf (fun hf => ?_) (fun hf => ?_)
  · refine P_aload_n d_111_13 rfl ?_
    refine P_dup d_111_14 rfl ?_
    refine A_gI d_111_15 cn_111 fk_CordLoft_Acts_16 k_38 hW ?_
    refine A_iconst d_111_18 ic_1 ?_
    refine P_iadd d_111_19 ?_
    refine A_pI d_111_20 cn_111 fp_CordLoft_Acts_16 k_38 hW hf (fun hW hf => ?_)
    refine A_iconst d_111_23 ic_1 ?_
    exact A_zret d_111_24 mr_111 hW (Or.inr rfl) hf k
  · refine A_iconst d_111_11 ic_0 ?_
    exact A_zret d_111_12 mr_111 hW (Or.inl rfl) hf k
def f_C_redo  (M : AM) : Option (Int32 × AM) :=
  bnd (f_Acts_takeAgain  M) (fun r1 M2 => some (r1, M2))
set_option maxRecDepth 20000 in
theorem t_C_redo {G : GT} {d : Nat}  {M : AM} {Q : AM → Option Value → Prop} {r : Int32} {M' : AM} (hW : WT M)  (hf : f_C_redo  M = some (r, M')) (k : WT M' → (r = 0 ∨ r = 1) → Q M' (some (.int r)))  : Cal G (d + 1) 110 [.ref 0] M Q := by
  refine A_enter ml_110 rfl ?_
  refine P_aload_n d_110_0 rfl ?_
  refine A_gF d_110_1 cn_110 fk_CordLoft_45 ft_12_5 k_0 hW ?_
  refine A_V0 d_110_4 vk_110_196 ml_111 rfl k_38 hW rfl hf (fun r1 M2 hc hf => t_Acts_takeAgain hW  hc (fun hW hb2 => ?_))
  exact A_zret d_110_7 mr_110 hW hb2 hf k
def f_C_will_j60 (rec : Int32 → AM → Option (Unit × AM)) (v1 : Int32) (v2 : Int32) (v3 : Int32) (s0 : Nat) (s1 : Nat) (s2 : Int32) (M : AM) : Option (Unit × AM) :=
  bnd (f_State_passDusk s0 s1 s2 M) (fun r1 M2 => rec (v3 + 1) M2)
set_option maxRecDepth 20000 in
theorem t_C_will_j60 {G : GT} {d : Nat} {v1 : Int32} {v2 : Int32} {v3 : Int32} {s0 : Nat} {s1 : Nat} {s2 : Int32} {M : AM} {Q : AM → Option Value → Prop} {yo : Unit} {Mo : AM} {rec : Int32 → AM → Option (Unit × AM)} (hrec : ∀ (v3 : Int32) (M : AM), WT M → rec v3 M = some (yo, Mo) → PW G (d + 5) 112 37 [.ref 0, .int v1, .int v2, .int v3] [] M 0 0 Q) (k1 : WT Mo → PW G (d + 5) 112 69 [.ref 0, ux, ux, ux] [] Mo 0 0 Q) (hW : WT M) (hs0 : kd0 s0 = 9) (hs1 : kd0 s1 = 5) (hf : f_C_will_j60 rec v1 v2 v3 s0 s1 s2 M = some (yo, Mo)) : PW G (d + 5) 112 60 [.ref 0, .int v1, .int v2, .int v3] [.int s2, .ref s1, .ref s0] M 0 0 Q := by
  refine A_V2 d_112_60 vk_112_188 ml_100 rfl hs0 hW rfl hf (fun r1 M2 hc hf => t_State_passDusk hW hs0 hs1 hc (fun hW => ?_))
  refine A_iinc d_112_63 ic_1 rfl ml_112 rfl rfl ?_
  refine P_goto (tgt := 37) d_112_66 rfl ?_
  exact hrec _ _ hW  hf
def f_C_will_b37 (rec : Int32 → AM → Option (Unit × AM)) (v1 : Int32) (v2 : Int32) (v3 : Int32) (M : AM) : Option (Unit × AM) :=
  if v1 ≤ v3 then some ((), M) else ckK (gR M 0 3) 5 (if v2 = 1 then f_C_will_j60 rec v1 v2 v3 81 (gR M 0 3) 1 M else f_C_will_j60 rec v1 v2 v3 81 (gR M 0 3) 0 M)
def f_C_will_l37 (v1 : Int32) (v2 : Int32) : Nat → Int32 → AM → Option (Unit × AM)
  | 0, _, _ => none
  | n + 1, v3, M => f_C_will_b37 (f_C_will_l37 v1 v2 n) v1 v2 v3 M
set_option maxRecDepth 20000 in
theorem t_C_will_b37 {G : GT} {d : Nat} {v1 : Int32} {v2 : Int32} {v3 : Int32} {M : AM} {Q : AM → Option Value → Prop} {yo : Unit} {Mo : AM} {rec : Int32 → AM → Option (Unit × AM)} (hrec : ∀ (v3 : Int32) (M : AM), WT M → rec v3 M = some (yo, Mo) → PW G (d + 5) 112 37 [.ref 0, .int v1, .int v2, .int v3] [] M 0 0 Q) (k1 : WT Mo → PW G (d + 5) 112 69 [.ref 0, ux, ux, ux] [] Mo 0 0 Q) (hW : WT M)   (hf : f_C_will_b37 rec v1 v2 v3 M = some (yo, Mo)) : PW G (d + 5) 112 37 [.ref 0, .int v1, .int v2, .int v3] [] M 0 0 Q := by
  refine P_iload_n d_112_37 rfl ?_
  refine P_iload_n d_112_38 rfl ?_
  refine A_icmp_ge (tgt := 69) d_112_39 rfl hf (fun hf => ?_) (fun hf => ?_)
  · refine P_fgt [true, false, false, false] ?_
    cases hf
    exact k1 hW 
  · refine P_aload_n d_112_42 rfl ?_
    refine A_gF d_112_43 cn_112 fk_CordLoft_52 ft_12_6 k_0 hW ?_
    refine P_aload_n d_112_46 rfl ?_
    refine A_gM d_112_47 cn_112 fk_CordLoft_35 k_0 hW hf (fun hk1 hf => ?_)
    refine P_iload_n d_112_50 rfl ?_
    refine A_iconst d_112_51 ic_1 ?_
    refine A_icmp_ne (tgt := 59) d_112_52 rfl hf (fun hf => ?_) (fun hf => ?_)
    · refine A_iconst d_112_59 ic_0 ?_
      exact t_C_will_j60 hrec k1 hW k_81 hk1 hf
    · refine A_iconst d_112_55 ic_1 ?_
      refine P_goto (tgt := 60) d_112_56 rfl ?_
      exact t_C_will_j60 hrec k1 hW k_81 hk1 hf
theorem t_C_will_l37 {G : GT} {d : Nat} {v1 : Int32} {v2 : Int32} {Q : AM → Option Value → Prop} {yo : Unit} {Mo : AM} (k1 : WT Mo → PW G (d + 5) 112 69 [.ref 0, ux, ux, ux] [] Mo 0 0 Q)  : ∀ (z : Nat) (v3 : Int32) (M : AM), WT M → f_C_will_l37 v1 v2 z v3 M = some (yo, Mo) → PW G (d + 5) 112 37 [.ref 0, .int v1, .int v2, .int v3] [] M 0 0 Q := by
  intro z
  induction z with
  | zero => intro v3 M hW hf; cases hf
  | succ z ih => intro v3 M hW hf; exact t_C_will_b37 (fun v3 M hW hf => ih v3 M hW hf) k1 hW   hf
def f_C_will (a1 : Int32) (a2 : Int32) (M : AM) : Option (Int32 × AM) :=
  if a1 < 0 then some ((-1), M) else if 60 < a1 then some ((-1), M) else if a2 < 0 then some ((-1), M) else if a2 ≤ 1 then bnd (f_Acts_current  M) (fun r1 M2 => bnd (f_State_become 81 r1 M2) (fun r3 M4 => bnd (f_C_will_l37 a1 a2 fu 0 M4) (fun y5 M6 => some (gI M6 81 0, M6)))) else some ((-1), M)
set_option maxRecDepth 20000 in
theorem t_C_will {G : GT} {d : Nat} {a1 : Int32} {a2 : Int32} {M : AM} {Q : AM → Option Value → Prop} {r : Int32} {M' : AM} (hW : WT M)  (hf : f_C_will a1 a2 M = some (r, M')) (k : WT M' → Q M' (some (.int r)))  : Cal G (d + 5) 112 [.ref 0, .int a1, .int a2] M Q := by
  refine A_enter ml_112 rfl ?_
  refine P_iload_n d_112_0 rfl ?_
  refine A_if_lt (tgt := 19) d_112_1 rfl hf (fun hf => ?_) (fun hf => ?_)
  · refine A_iconst d_112_19 ic_m1 ?_
    exact A_iret d_112_20 mr_112 hW hf k
  · refine P_iload_n d_112_4 rfl ?_
    refine P_bipush d_112_5 bi_60 ?_
    refine A_icmp_gt (tgt := 19) d_112_7 rfl hf (fun hf => ?_) (fun hf => ?_)
    · refine A_iconst d_112_19 ic_m1 ?_
      exact A_iret d_112_20 mr_112 hW hf k
    · refine P_iload_n d_112_10 rfl ?_
      refine A_if_lt (tgt := 19) d_112_11 rfl hf (fun hf => ?_) (fun hf => ?_)
      · refine A_iconst d_112_19 ic_m1 ?_
        exact A_iret d_112_20 mr_112 hW hf k
      · refine P_iload_n d_112_14 rfl ?_
        refine A_iconst d_112_15 ic_1 ?_
        refine A_icmp_le (tgt := 21) d_112_16 rfl hf (fun hf => ?_) (fun hf => ?_)
        · refine P_aload_n d_112_21 rfl ?_
          refine A_gF d_112_22 cn_112 fk_CordLoft_52 ft_12_6 k_0 hW ?_
          refine P_aload_n d_112_25 rfl ?_
          refine A_gF d_112_26 cn_112 fk_CordLoft_45 ft_12_5 k_0 hW ?_
          refine A_V0 d_112_29 vk_112_114 ml_78 rfl k_38 hW rfl hf (fun r1 M2 hc hf => t_Acts_current hW  hc (fun hW hb2 => ?_))
          refine A_V1 d_112_32 vk_112_199 ml_95 rfl k_81 hW rfl hf (fun r3 M4 hc hf => t_State_become hW k_81 hb2 hc (fun hW => ?_))
          refine A_iconst d_112_35 ic_0 ?_
          refine A_istore_n d_112_36 ml_112 rfl rfl ?_
          obtain ⟨y5, M6, hl, hf⟩ := bnd_some hf
          refine t_C_will_l37 (fun hW => ?_)  fu _ _ hW  hl
          refine P_aload_n d_112_69 rfl ?_
          refine A_gF d_112_70 cn_112 fk_CordLoft_52 ft_12_6 k_0 hW ?_
          refine A_gI d_112_73 cn_112 fk_CordLoft_140 k_81 hW ?_
          exact A_iret d_112_76 mr_112 hW hf k
        · refine A_iconst d_112_19 ic_m1 ?_
          exact A_iret d_112_20 mr_112 hW hf k
def f_Plan_allPictures (a0 : Nat) (M : AM) : Option (Int32 × AM) :=
  some ((1 : Int32) <<< ((gI M a0 0) &&& 31), M)
set_option maxRecDepth 20000 in
theorem t_Plan_allPictures {G : GT} {d : Nat} {a0 : Nat} {M : AM} {Q : AM → Option Value → Prop} {r : Int32} {M' : AM} (hW : WT M) (ha0 : kd0 a0 = 5) (hf : f_Plan_allPictures a0 M = some (r, M')) (k : WT M' → Q M' (some (.int r)))  : Cal G d 115 [.ref a0] M Q := by
  refine A_enter ml_115 rfl ?_
  refine A_iconst d_115_0 ic_1 ?_
  refine P_aload_n d_115_1 rfl ?_
  refine A_gI d_115_2 cn_115 fk_CordLoft_Plan_51 ha0 hW ?_
  refine P_ishl d_115_5 ?_
  exact A_iret d_115_6 mr_115 hW hf k
def f_Plan_hasPicture (a0 : Nat) (a1 : Int32) (M : AM) : Option (Int32 × AM) :=
  if a1 < 0 then some (0, M) else bnd (f_Plan_allPictures a0 M) (fun r1 M2 => if r1 ≤ a1 then some (0, M2) else some (1, M2))
set_option maxRecDepth 20000 in
theorem t_Plan_hasPicture {G : GT} {d : Nat} {a0 : Nat} {a1 : Int32} {M : AM} {Q : AM → Option Value → Prop} {r : Int32} {M' : AM} (hW : WT M) (ha0 : kd0 a0 = 5) (hf : f_Plan_hasPicture a0 a1 M = some (r, M')) (k : WT M' → (r = 0 ∨ r = 1) → Q M' (some (.int r)))  : Cal G (d + 1) 114 [.ref a0, .int a1] M Q := by
  refine A_enter ml_114 rfl ?_
  refine P_iload_n d_114_0 rfl ?_
  refine A_if_lt (tgt := 16) d_114_1 rfl hf (fun hf => ?_) (fun hf => ?_)
  · refine A_iconst d_114_16 ic_0 ?_
    exact A_zret d_114_17 mr_114 hW (Or.inl rfl) hf k
  · refine P_iload_n d_114_4 rfl ?_
    refine P_aload_n d_114_5 rfl ?_
    refine A_V0 d_114_6 vk_114_73 ml_115 rfl ha0 hW rfl hf (fun r1 M2 hc hf => t_Plan_allPictures hW ha0 hc (fun hW => ?_))
    refine A_icmp_ge (tgt := 16) d_114_9 rfl hf (fun hf => ?_) (fun hf => ?_)
    · refine A_iconst d_114_16 ic_0 ?_
      exact A_zret d_114_17 mr_114 hW (Or.inl rfl) hf k
    · refine A_iconst d_114_12 ic_1 ?_
      refine P_goto (tgt := 17) d_114_13 rfl ?_
      exact A_zret d_114_17 mr_114 hW (Or.inr rfl) hf k
def f_Plan_allCords (a0 : Nat) (M : AM) : Option (Int32 × AM) :=
  some (((1 : Int32) <<< ((gI M a0 6) &&& 31)) - 1, M)
set_option maxRecDepth 20000 in
theorem t_Plan_allCords {G : GT} {d : Nat} {a0 : Nat} {M : AM} {Q : AM → Option Value → Prop} {r : Int32} {M' : AM} (hW : WT M) (ha0 : kd0 a0 = 5) (hf : f_Plan_allCords a0 M = some (r, M')) (k : WT M' → Q M' (some (.int r)))  : Cal G d 117 [.ref a0] M Q := by
  refine A_enter ml_117 rfl ?_
  refine A_iconst d_117_0 ic_1 ?_
  refine P_aload_n d_117_1 rfl ?_
  refine A_gI d_117_2 cn_117 fk_CordLoft_Plan_58 ha0 hW ?_
  refine P_ishl d_117_5 ?_
  refine A_iconst d_117_6 ic_1 ?_
  refine P_isub d_117_7 ?_
  exact A_iret d_117_8 mr_117 hW hf k
def f_Sets_countFor_b6 (rec : Int32 → Int32 → AM → Option (Int32 × AM)) (v1 : Nat) (v2 : Nat) (v3 : Int32) (v4 : Int32) (v5 : Int32) (M : AM) : Option (Int32 × AM) :=
  bnd (f_Plan_allCords v1 M) (fun r1 M2 => if r1 < v5 then some (v4, M2) else if (v5 &&& (gI M2 v2 1)) = 0 then ald 256 M2 (v1 + 8) v5 (fun x3 => if ((gI M2 v2 0) ^^^ x3) = v3 then rec (v4 + 1) (v5 + 1) M2 else rec v4 (v5 + 1) M2) else rec v4 (v5 + 1) M2)
def f_Sets_countFor_l6 (v1 : Nat) (v2 : Nat) (v3 : Int32) : Nat → Int32 → Int32 → AM → Option (Int32 × AM)
  | 0, _, _, _ => none
  | n + 1, v4, v5, M => f_Sets_countFor_b6 (f_Sets_countFor_l6 v1 v2 v3 n) v1 v2 v3 v4 v5 M
set_option maxRecDepth 20000 in
theorem t_Sets_countFor_b6 {G : GT} {d : Nat} {v1 : Nat} {v2 : Nat} {v3 : Int32} {v4 : Int32} {v5 : Int32} {M : AM} {Q : AM → Option Value → Prop} {yo : Int32} {Mo : AM} {rec : Int32 → Int32 → AM → Option (Int32 × AM)} (hrec : ∀ (v4 : Int32) (v5 : Int32) (M : AM), WT M → rec v4 v5 M = some (yo, Mo) → PW G (d + 1) 116 6 [ux, .ref v1, .ref v2, .int v3, .int v4, .int v5] [] M 0 0 Q) (k1 : WT Mo → PW G (d + 1) 116 50 [ux, ux, ux, ux, .int yo, ux] [] Mo 0 0 Q) (hW : WT M) (hv1 : kd0 v1 = 5) (hv2 : kd0 v2 = 9)  (hf : f_Sets_countFor_b6 rec v1 v2 v3 v4 v5 M = some (yo, Mo)) : PW G (d + 1) 116 6 [ux, .ref v1, .ref v2, .int v3, .int v4, .int v5] [] M 0 0 Q := by
  refine P_iload d_116_6 rfl ?_
  refine P_aload_n d_116_8 rfl ?_
  refine A_V0 d_116_9 vk_116_33 ml_117 rfl hv1 hW rfl hf (fun r1 M2 hc hf => t_Plan_allCords hW hv1 hc (fun hW => ?_))
  refine A_icmp_gt (tgt := 50) d_116_12 rfl hf (fun hf => ?_) (fun hf => ?_)
  · refine P_fgt [false, false, false, false, true, false] ?_
    cases hf
    exact k1 hW 
  · refine P_iload d_116_15 rfl ?_
    refine P_aload_n d_116_17 rfl ?_
    refine A_gI d_116_18 cn_116 fk_CordLoft_Sets_37 hv2 hW ?_
    refine P_iand d_116_21 ?_
    refine A_if_ne (tgt := 44) d_116_22 rfl hf (fun hf => ?_) (fun hf => ?_)
    · refine A_iinc d_116_44 ic_1 rfl ml_116 rfl rfl ?_
      refine P_goto (tgt := 6) d_116_47 rfl ?_
      exact hrec _ _ _ hW  hf
    · refine P_aload_n d_116_25 rfl ?_
      refine A_gI d_116_26 cn_116 fk_CordLoft_Sets_43 hv2 hW ?_
      refine P_aload_n d_116_29 rfl ?_
      refine A_gFr d_116_30 cn_116 fk_CordLoft_Sets_46 ft_5_10 hv1 hW ?_
      refine P_iload d_116_33 rfl ?_
      refine A_iald d_116_35 (kr_5_8 hv1) (lr_5_8 hv1) hW hf (fun hf => ?_)
      refine P_ixor d_116_36 ?_
      refine P_iload_n d_116_37 rfl ?_
      refine A_icmp_ne (tgt := 44) d_116_38 rfl hf (fun hf => ?_) (fun hf => ?_)
      · refine A_iinc d_116_44 ic_1 rfl ml_116 rfl rfl ?_
        refine P_goto (tgt := 6) d_116_47 rfl ?_
        exact hrec _ _ _ hW  hf
      · refine A_iinc d_116_41 ic_1 rfl ml_116 rfl rfl ?_
        refine A_iinc d_116_44 ic_1 rfl ml_116 rfl rfl ?_
        refine P_goto (tgt := 6) d_116_47 rfl ?_
        exact hrec _ _ _ hW  hf
theorem t_Sets_countFor_l6 {G : GT} {d : Nat} {v1 : Nat} {v2 : Nat} {v3 : Int32} {Q : AM → Option Value → Prop} {yo : Int32} {Mo : AM} (k1 : WT Mo → PW G (d + 1) 116 50 [ux, ux, ux, ux, .int yo, ux] [] Mo 0 0 Q) (hv1 : kd0 v1 = 5) (hv2 : kd0 v2 = 9) : ∀ (z : Nat) (v4 : Int32) (v5 : Int32) (M : AM), WT M → f_Sets_countFor_l6 v1 v2 v3 z v4 v5 M = some (yo, Mo) → PW G (d + 1) 116 6 [ux, .ref v1, .ref v2, .int v3, .int v4, .int v5] [] M 0 0 Q := by
  intro z
  induction z with
  | zero => intro v4 v5 M hW hf; cases hf
  | succ z ih => intro v4 v5 M hW hf; exact t_Sets_countFor_b6 (fun v4 v5 M hW hf => ih v4 v5 M hW hf) k1 hW hv1 hv2  hf
def f_Sets_countFor (a1 : Nat) (a2 : Nat) (a3 : Int32) (M : AM) : Option (Int32 × AM) :=
  bnd (f_Sets_countFor_l6 a1 a2 a3 fu 0 0 M) (fun y1 M2 => some (y1, M2))
set_option maxRecDepth 20000 in
theorem t_Sets_countFor {G : GT} {d : Nat} {a1 : Nat} {a2 : Nat} {a3 : Int32} {M : AM} {Q : AM → Option Value → Prop} {r : Int32} {M' : AM} (hW : WT M) (ha1 : kd0 a1 = 5) (ha2 : kd0 a2 = 9) (hf : f_Sets_countFor a1 a2 a3 M = some (r, M')) (k : WT M' → Q M' (some (.int r)))  : Cal G (d + 1) 116 [.ref 86, .ref a1, .ref a2, .int a3] M Q := by
  refine A_enter ml_116 rfl ?_
  refine A_iconst d_116_0 ic_0 ?_
  refine A_istore d_116_1 ml_116 rfl rfl ?_
  refine A_iconst d_116_3 ic_0 ?_
  refine A_istore d_116_4 ml_116 rfl rfl ?_
  obtain ⟨y1, M2, hl, hf⟩ := bnd_some hf
  refine P_fgt [false, true, true, true, true, true] ?_
  refine t_Sets_countFor_l6 (fun hW => ?_) ha1 ha2 fu _ _ _ hW  hl
  refine P_iload d_116_50 rfl ?_
  exact A_iret d_116_52 mr_116 hW hf k
def f_C_can (a1 : Int32) (M : AM) : Option (Int32 × AM) :=
  ckK (gR M 0 3) 5 (bnd (f_Plan_hasPicture (gR M 0 3) a1 M) (fun r2 M3 => if r2 = 0 then some ((-1), M3) else ckK (gR M3 0 3) 5 (bnd (f_Acts_current  M3) (fun r5 M6 => bnd (f_Sets_countFor (gR M3 0 3) r5 a1 M6) (fun r7 M8 => if r7 ≤ 0 then some (0, M8) else some (1, M8))))))
set_option maxRecDepth 20000 in
theorem t_C_can {G : GT} {d : Nat} {a1 : Int32} {M : AM} {Q : AM → Option Value → Prop} {r : Int32} {M' : AM} (hW : WT M)  (hf : f_C_can a1 M = some (r, M')) (k : WT M' → Q M' (some (.int r)))  : Cal G (d + 2) 113 [.ref 0, .int a1] M Q := by
  refine A_enter ml_113 rfl ?_
  refine P_aload_n d_113_0 rfl ?_
  refine A_gM d_113_1 cn_113 fk_CordLoft_35 k_0 hW hf (fun hk1 hf => ?_)
  refine P_iload_n d_113_4 rfl ?_
  refine A_V1 d_113_5 vk_113_203 ml_114 rfl hk1 hW rfl hf (fun r2 M3 hc hf => t_Plan_hasPicture hW hk1 hc (fun hW hb3 => ?_))
  refine A_if_ne (tgt := 13) d_113_8 rfl hf (fun hf => ?_) (fun hf => ?_)
  · refine P_aload_n d_113_13 rfl ?_
    refine A_gF d_113_14 cn_113 fk_CordLoft_67 ft_12_9 k_0 hW ?_
    refine P_aload_n d_113_17 rfl ?_
    refine A_gM d_113_18 cn_113 fk_CordLoft_35 k_0 hW hf (fun hk4 hf => ?_)
    refine P_aload_n d_113_21 rfl ?_
    refine A_gF d_113_22 cn_113 fk_CordLoft_45 ft_12_5 k_0 hW ?_
    refine A_V0 d_113_25 vk_113_114 ml_78 rfl k_38 hW rfl hf (fun r5 M6 hc hf => t_Acts_current hW  hc (fun hW hb6 => ?_))
    refine P_iload_n d_113_28 rfl ?_
    refine A_V3 d_113_29 vk_113_206 ml_116 rfl k_86 hW rfl hf (fun r7 M8 hc hf => t_Sets_countFor hW hk4 hb6 hc (fun hW => ?_))
    refine A_if_le (tgt := 39) d_113_32 rfl hf (fun hf => ?_) (fun hf => ?_)
    · refine A_iconst d_113_39 ic_0 ?_
      exact A_iret d_113_40 mr_113 hW hf k
    · refine A_iconst d_113_35 ic_1 ?_
      refine P_goto (tgt := 40) d_113_36 rfl ?_
      exact A_iret d_113_40 mr_113 hW hf k
  · refine A_iconst d_113_11 ic_m1 ?_
    exact A_iret d_113_12 mr_113 hW hf k
def f_Best_clear  (M : AM) : Option (Unit × AM) :=
  wI M 87 0 0 (fun M1 => wI M1 87 1 (-1) (fun M2 => some ((), M2)))
set_option maxRecDepth 20000 in
theorem t_Best_clear {G : GT} {d : Nat}  {M : AM} {Q : AM → Option Value → Prop} {r : Unit} {M' : AM} (hW : WT M)  (hf : f_Best_clear  M = some (r, M')) (k : WT M' → Q M' none)  : Cal G d 120 [.ref 87] M Q := by
  refine A_enter ml_120 rfl ?_
  refine P_aload_n d_120_0 rfl ?_
  refine A_iconst d_120_1 ic_0 ?_
  refine A_pI d_120_2 cn_120 fp_CordLoft_Best_9 k_87 hW hf (fun hW hf => ?_)
  refine P_aload_n d_120_5 rfl ?_
  refine A_iconst d_120_6 ic_m1 ?_
  refine A_pI d_120_7 cn_120 fp_CordLoft_Best_15 k_87 hW hf (fun hW hf => ?_)
  exact A_ret d_120_10 mr_120 hW hf k
def f_Best_offer_j31 (v1 : Int32) (v2 : Int32) (M : AM) : Option (Unit × AM) :=
  wI M 87 0 v1 (fun M1 => wI M1 87 1 v2 (fun M2 => some ((), M2)))
set_option maxRecDepth 20000 in
theorem t_Best_offer_j31 {G : GT} {d : Nat} {v1 : Int32} {v2 : Int32} {M : AM} {Q : AM → Option Value → Prop} {r : Unit} {M' : AM} (k : WT M' → Q M' none) (hW : WT M)  (hf : f_Best_offer_j31 v1 v2 M = some (r, M')) : PW G d 121 31 [.ref 87, .int v1, .int v2] [] M 0 0 Q := by
  refine P_aload_n d_121_31 rfl ?_
  refine P_iload_n d_121_32 rfl ?_
  refine A_pI d_121_33 cn_121 fp_CordLoft_Best_9 k_87 hW hf (fun hW hf => ?_)
  refine P_aload_n d_121_36 rfl ?_
  refine P_iload_n d_121_37 rfl ?_
  refine A_pI d_121_38 cn_121 fp_CordLoft_Best_15 k_87 hW hf (fun hW hf => ?_)
  exact A_ret d_121_41 mr_121 hW hf k
def f_Best_offer (a1 : Int32) (a2 : Int32) (M : AM) : Option (Unit × AM) :=
  if (gI M 87 1) < 0 then f_Best_offer_j31 a1 a2 M else if a1 < (gI M 87 0) then f_Best_offer_j31 a1 a2 M else if a1 = (gI M 87 0) then if (gI M 87 1) ≤ a2 then some ((), M) else f_Best_offer_j31 a1 a2 M else some ((), M)
set_option maxRecDepth 20000 in
theorem t_Best_offer {G : GT} {d : Nat} {a1 : Int32} {a2 : Int32} {M : AM} {Q : AM → Option Value → Prop} {r : Unit} {M' : AM} (hW : WT M)  (hf : f_Best_offer a1 a2 M = some (r, M')) (k : WT M' → Q M' none)  : Cal G d 121 [.ref 87, .int a1, .int a2] M Q := by
  refine A_enter ml_121 rfl ?_
  refine P_aload_n d_121_0 rfl ?_
  refine A_gI d_121_1 cn_121 fk_CordLoft_Best_15 k_87 hW ?_
  refine A_if_lt (tgt := 31) d_121_4 rfl hf (fun hf => ?_) (fun hf => ?_)
  · exact t_Best_offer_j31 k hW  hf
  · refine P_iload_n d_121_7 rfl ?_
    refine P_aload_n d_121_8 rfl ?_
    refine A_gI d_121_9 cn_121 fk_CordLoft_Best_9 k_87 hW ?_
    refine A_icmp_lt (tgt := 31) d_121_12 rfl hf (fun hf => ?_) (fun hf => ?_)
    · exact t_Best_offer_j31 k hW  hf
    · refine P_iload_n d_121_15 rfl ?_
      refine P_aload_n d_121_16 rfl ?_
      refine A_gI d_121_17 cn_121 fk_CordLoft_Best_9 k_87 hW ?_
      refine A_icmp_ne (tgt := 41) d_121_20 rfl hf (fun hf => ?_) (fun hf => ?_)
      · exact A_ret d_121_41 mr_121 hW hf k
      · refine P_iload_n d_121_23 rfl ?_
        refine P_aload_n d_121_24 rfl ?_
        refine A_gI d_121_25 cn_121 fk_CordLoft_Best_15 k_87 hW ?_
        refine A_icmp_ge (tgt := 41) d_121_28 rfl hf (fun hf => ?_) (fun hf => ?_)
        · exact A_ret d_121_41 mr_121 hW hf k
        · exact t_Best_offer_j31 k hW  hf
def f_Sets_leastFor_b10 (rec : Int32 → AM → Option (Unit × AM)) (v1 : Nat) (v2 : Nat) (v3 : Int32) (v4 : Int32) (M : AM) : Option (Unit × AM) :=
  bnd (f_Plan_allCords v1 M) (fun r1 M2 => if r1 < v4 then some ((), M2) else if (v4 &&& (gI M2 v2 1)) = 0 then ald 256 M2 (v1 + 8) v4 (fun x3 => if ((gI M2 v2 0) ^^^ x3) = v3 then bnd (f_Int_bitCount v4 M2) (fun r4 M5 => bnd (f_Best_offer r4 v4 M5) (fun r6 M7 => rec (v4 + 1) M7)) else rec (v4 + 1) M2) else rec (v4 + 1) M2)
def f_Sets_leastFor_l10 (v1 : Nat) (v2 : Nat) (v3 : Int32) : Nat → Int32 → AM → Option (Unit × AM)
  | 0, _, _ => none
  | n + 1, v4, M => f_Sets_leastFor_b10 (f_Sets_leastFor_l10 v1 v2 v3 n) v1 v2 v3 v4 M
set_option maxRecDepth 20000 in
theorem t_Sets_leastFor_b10 {G : GT} {d : Nat} {v1 : Nat} {v2 : Nat} {v3 : Int32} {v4 : Int32} {M : AM} {Q : AM → Option Value → Prop} {yo : Unit} {Mo : AM} {rec : Int32 → AM → Option (Unit × AM)} (hrec : ∀ (v4 : Int32) (M : AM), WT M → rec v4 M = some (yo, Mo) → PW G (d + 1) 119 10 [.ref 86, .ref v1, .ref v2, .int v3, .int v4] [] M 0 0 Q) (k1 : WT Mo → PW G (d + 1) 119 65 [.ref 86, ux, ux, ux, ux] [] Mo 0 0 Q) (hW : WT M) (hv1 : kd0 v1 = 5) (hv2 : kd0 v2 = 9)  (hf : f_Sets_leastFor_b10 rec v1 v2 v3 v4 M = some (yo, Mo)) : PW G (d + 1) 119 10 [.ref 86, .ref v1, .ref v2, .int v3, .int v4] [] M 0 0 Q := by
  refine P_iload d_119_10 rfl ?_
  refine P_aload_n d_119_12 rfl ?_
  refine A_V0 d_119_13 vk_119_33 ml_117 rfl hv1 hW rfl hf (fun r1 M2 hc hf => t_Plan_allCords hW hv1 hc (fun hW => ?_))
  refine A_icmp_gt (tgt := 65) d_119_16 rfl hf (fun hf => ?_) (fun hf => ?_)
  · refine P_fgt [true, false, false, false, false] ?_
    cases hf
    exact k1 hW 
  · refine P_iload d_119_19 rfl ?_
    refine P_aload_n d_119_21 rfl ?_
    refine A_gI d_119_22 cn_119 fk_CordLoft_Sets_37 hv2 hW ?_
    refine P_iand d_119_25 ?_
    refine A_if_ne (tgt := 59) d_119_26 rfl hf (fun hf => ?_) (fun hf => ?_)
    · refine A_iinc d_119_59 ic_1 rfl ml_119 rfl rfl ?_
      refine P_goto (tgt := 10) d_119_62 rfl ?_
      exact hrec _ _ hW  hf
    · refine P_aload_n d_119_29 rfl ?_
      refine A_gI d_119_30 cn_119 fk_CordLoft_Sets_43 hv2 hW ?_
      refine P_aload_n d_119_33 rfl ?_
      refine A_gFr d_119_34 cn_119 fk_CordLoft_Sets_46 ft_5_10 hv1 hW ?_
      refine P_iload d_119_37 rfl ?_
      refine A_iald d_119_39 (kr_5_8 hv1) (lr_5_8 hv1) hW hf (fun hf => ?_)
      refine P_ixor d_119_40 ?_
      refine P_iload_n d_119_41 rfl ?_
      refine A_icmp_ne (tgt := 59) d_119_42 rfl hf (fun hf => ?_) (fun hf => ?_)
      · refine A_iinc d_119_59 ic_1 rfl ml_119 rfl rfl ?_
        refine P_goto (tgt := 10) d_119_62 rfl ?_
        exact hrec _ _ hW  hf
      · refine P_aload_n d_119_45 rfl ?_
        refine A_gF d_119_46 cn_119 fk_CordLoft_Sets_12 ft_7_0 k_86 hW ?_
        refine P_iload d_119_49 rfl ?_
        refine A_S1 d_119_51 sk_119_52 ml_92 rfl rfl hf (fun r4 M5 hc hf => t_Int_bitCount hW  hc (fun hW => ?_))
        refine P_iload d_119_54 rfl ?_
        refine A_V2 d_119_56 vk_119_58 ml_121 rfl k_87 hW rfl hf (fun r6 M7 hc hf => t_Best_offer hW  hc (fun hW => ?_))
        refine A_iinc d_119_59 ic_1 rfl ml_119 rfl rfl ?_
        refine P_goto (tgt := 10) d_119_62 rfl ?_
        exact hrec _ _ hW  hf
theorem t_Sets_leastFor_l10 {G : GT} {d : Nat} {v1 : Nat} {v2 : Nat} {v3 : Int32} {Q : AM → Option Value → Prop} {yo : Unit} {Mo : AM} (k1 : WT Mo → PW G (d + 1) 119 65 [.ref 86, ux, ux, ux, ux] [] Mo 0 0 Q) (hv1 : kd0 v1 = 5) (hv2 : kd0 v2 = 9) : ∀ (z : Nat) (v4 : Int32) (M : AM), WT M → f_Sets_leastFor_l10 v1 v2 v3 z v4 M = some (yo, Mo) → PW G (d + 1) 119 10 [.ref 86, .ref v1, .ref v2, .int v3, .int v4] [] M 0 0 Q := by
  intro z
  induction z with
  | zero => intro v4 M hW hf; cases hf
  | succ z ih => intro v4 M hW hf; exact t_Sets_leastFor_b10 (fun v4 M hW hf => ih v4 M hW hf) k1 hW hv1 hv2  hf
def f_Sets_leastFor (a1 : Nat) (a2 : Nat) (a3 : Int32) (M : AM) : Option (Int32 × AM) :=
  bnd (f_Best_clear  M) (fun r1 M2 => bnd (f_Sets_leastFor_l10 a1 a2 a3 fu 0 M2) (fun y3 M4 => some (gI M4 87 1, M4)))
set_option maxRecDepth 20000 in
theorem t_Sets_leastFor {G : GT} {d : Nat} {a1 : Nat} {a2 : Nat} {a3 : Int32} {M : AM} {Q : AM → Option Value → Prop} {r : Int32} {M' : AM} (hW : WT M) (ha1 : kd0 a1 = 5) (ha2 : kd0 a2 = 9) (hf : f_Sets_leastFor a1 a2 a3 M = some (r, M')) (k : WT M' → Q M' (some (.int r)))  : Cal G (d + 1) 119 [.ref 86, .ref a1, .ref a2, .int a3] M Q := by
  refine A_enter ml_119 rfl ?_
  refine P_aload_n d_119_0 rfl ?_
  refine A_gF d_119_1 cn_119 fk_CordLoft_Sets_12 ft_7_0 k_86 hW ?_
  refine A_V0 d_119_4 vk_119_49 ml_120 rfl k_87 hW rfl hf (fun r1 M2 hc hf => t_Best_clear hW  hc (fun hW => ?_))
  refine A_iconst d_119_7 ic_0 ?_
  refine A_istore d_119_8 ml_119 rfl rfl ?_
  obtain ⟨y3, M4, hl, hf⟩ := bnd_some hf
  refine t_Sets_leastFor_l10 (fun hW => ?_) ha1 ha2 fu _ _ hW  hl
  refine P_aload_n d_119_65 rfl ?_
  refine A_gF d_119_66 cn_119 fk_CordLoft_Sets_12 ft_7_0 k_86 hW ?_
  refine A_gI d_119_69 cn_119 fk_CordLoft_Sets_62 k_87 hW ?_
  exact A_iret d_119_72 mr_119 hW hf k
def f_C_fewest (a1 : Int32) (a2 : Int32) (M : AM) : Option (Int32 × AM) :=
  ckK (gR M 0 3) 5 (bnd (f_Acts_current  M) (fun r2 M3 => bnd (f_Sets_leastFor (gR M 0 3) r2 a1 M3) (fun r4 M5 => if 0 ≤ r4 then bnd (f_Int_bitCount r4 M5) (fun r6 M7 => bnd (f_C_either a2 r6 r4 M7) (fun r8 M9 => some (r8, M9))) else some ((-1), M5))))
set_option maxRecDepth 20000 in
theorem t_C_fewest {G : GT} {d : Nat} {a1 : Int32} {a2 : Int32} {M : AM} {Q : AM → Option Value → Prop} {r : Int32} {M' : AM} (hW : WT M)  (hf : f_C_fewest a1 a2 M = some (r, M')) (k : WT M' → Q M' (some (.int r)))  : Cal G (d + 2) 118 [.ref 0, .int a1, .int a2] M Q := by
  refine A_enter ml_118 rfl ?_
  refine P_aload_n d_118_0 rfl ?_
  refine A_gF d_118_1 cn_118 fk_CordLoft_67 ft_12_9 k_0 hW ?_
  refine P_aload_n d_118_4 rfl ?_
  refine A_gM d_118_5 cn_118 fk_CordLoft_35 k_0 hW hf (fun hk1 hf => ?_)
  refine P_aload_n d_118_8 rfl ?_
  refine A_gF d_118_9 cn_118 fk_CordLoft_45 ft_12_5 k_0 hW ?_
  refine A_V0 d_118_12 vk_118_114 ml_78 rfl k_38 hW rfl hf (fun r2 M3 hc hf => t_Acts_current hW  hc (fun hW hb3 => ?_))
  refine P_iload_n d_118_15 rfl ?_
  refine A_V3 d_118_16 vk_118_210 ml_119 rfl k_86 hW rfl hf (fun r4 M5 hc hf => t_Sets_leastFor hW hk1 hb3 hc (fun hW => ?_))
  refine A_istore_n d_118_19 ml_118 rfl rfl ?_
  refine P_iload_n d_118_20 rfl ?_
  refine A_if_ge (tgt := 28) d_118_21 rfl hf (fun hf => ?_) (fun hf => ?_)
  · refine P_iload_n d_118_28 rfl ?_
    refine P_iload_n d_118_29 rfl ?_
    refine A_S1 d_118_30 sk_118_167 ml_92 rfl rfl hf (fun r6 M7 hc hf => t_Int_bitCount hW  hc (fun hW => ?_))
    refine P_iload_n d_118_33 rfl ?_
    refine A_S3 d_118_34 sk_118_132 ml_84 rfl rfl hf (fun r8 M9 hc hf => t_C_either hW  hc (fun hW => ?_))
    exact A_iret d_118_37 mr_118 hW hf k
  · refine A_iconst d_118_24 ic_m1 ?_
    refine P_goto (tgt := 37) d_118_25 rfl ?_
    exact A_iret d_118_37 mr_118 hW hf k
def f_Plan_priceOf_b4 (rec : Int32 → Int32 → AM → Option (Int32 × AM)) (v0 : Nat) (v1 : Int32) (v2 : Int32) (v3 : Int32) (M : AM) : Option (Int32 × AM) :=
  if (gI M v0 6) ≤ v3 then some (v2, M) else ald 8 M (v0 + 7) v3 (fun x1 => rec (v2 + (((v1 >>> (v3 &&& 31)) &&& 1) * x1)) (v3 + 1) M)
def f_Plan_priceOf_l4 (v0 : Nat) (v1 : Int32) : Nat → Int32 → Int32 → AM → Option (Int32 × AM)
  | 0, _, _, _ => none
  | n + 1, v2, v3, M => f_Plan_priceOf_b4 (f_Plan_priceOf_l4 v0 v1 n) v0 v1 v2 v3 M
set_option maxRecDepth 20000 in
theorem t_Plan_priceOf_b4 {G : GT} {d : Nat} {v0 : Nat} {v1 : Int32} {v2 : Int32} {v3 : Int32} {M : AM} {Q : AM → Option Value → Prop} {yo : Int32} {Mo : AM} {rec : Int32 → Int32 → AM → Option (Int32 × AM)} (hrec : ∀ (v2 : Int32) (v3 : Int32) (M : AM), WT M → rec v2 v3 M = some (yo, Mo) → PW G d 124 4 [.ref v0, .int v1, .int v2, .int v3] [] M 0 0 Q) (k1 : WT Mo → PW G d 124 33 [ux, ux, .int yo, ux] [] Mo 0 0 Q) (hW : WT M) (hv0 : kd0 v0 = 5)  (hf : f_Plan_priceOf_b4 rec v0 v1 v2 v3 M = some (yo, Mo)) : PW G d 124 4 [.ref v0, .int v1, .int v2, .int v3] [] M 0 0 Q := by
  refine P_iload_n d_124_4 rfl ?_
  refine P_aload_n d_124_5 rfl ?_
  refine A_gI d_124_6 cn_124 fk_CordLoft_Plan_58 hv0 hW ?_
  refine A_icmp_ge (tgt := 33) d_124_9 rfl hf (fun hf => ?_) (fun hf => ?_)
  · refine P_fgt [false, false, true, false] ?_
    cases hf
    exact k1 hW 
  · refine P_iload_n d_124_12 rfl ?_
    refine P_iload_n d_124_13 rfl ?_
    refine P_iload_n d_124_14 rfl ?_
    refine P_ishr d_124_15 ?_
    refine A_iconst d_124_16 ic_1 ?_
    refine P_iand d_124_17 ?_
    refine P_aload_n d_124_18 rfl ?_
    refine A_gFr d_124_19 cn_124 fk_CordLoft_Plan_31 ft_5_9 hv0 hW ?_
    refine P_iload_n d_124_22 rfl ?_
    refine A_iald d_124_23 (kr_5_7 hv0) (lr_5_7 hv0) hW hf (fun hf => ?_)
    refine P_imul d_124_24 ?_
    refine P_iadd d_124_25 ?_
    refine A_istore_n d_124_26 ml_124 rfl rfl ?_
    refine A_iinc d_124_27 ic_1 rfl ml_124 rfl rfl ?_
    refine P_goto (tgt := 4) d_124_30 rfl ?_
    exact hrec _ _ _ hW  hf
theorem t_Plan_priceOf_l4 {G : GT} {d : Nat} {v0 : Nat} {v1 : Int32} {Q : AM → Option Value → Prop} {yo : Int32} {Mo : AM} (k1 : WT Mo → PW G d 124 33 [ux, ux, .int yo, ux] [] Mo 0 0 Q) (hv0 : kd0 v0 = 5) : ∀ (z : Nat) (v2 : Int32) (v3 : Int32) (M : AM), WT M → f_Plan_priceOf_l4 v0 v1 z v2 v3 M = some (yo, Mo) → PW G d 124 4 [.ref v0, .int v1, .int v2, .int v3] [] M 0 0 Q := by
  intro z
  induction z with
  | zero => intro v2 v3 M hW hf; cases hf
  | succ z ih => intro v2 v3 M hW hf; exact t_Plan_priceOf_b4 (fun v2 v3 M hW hf => ih v2 v3 M hW hf) k1 hW hv0  hf
def f_Plan_priceOf (a0 : Nat) (a1 : Int32) (M : AM) : Option (Int32 × AM) :=
  bnd (f_Plan_priceOf_l4 a0 a1 fu 0 0 M) (fun y1 M2 => some (y1, M2))
set_option maxRecDepth 20000 in
theorem t_Plan_priceOf {G : GT} {d : Nat} {a0 : Nat} {a1 : Int32} {M : AM} {Q : AM → Option Value → Prop} {r : Int32} {M' : AM} (hW : WT M) (ha0 : kd0 a0 = 5) (hf : f_Plan_priceOf a0 a1 M = some (r, M')) (k : WT M' → Q M' (some (.int r)))  : Cal G d 124 [.ref a0, .int a1] M Q := by
  refine A_enter ml_124 rfl ?_
  refine A_iconst d_124_0 ic_0 ?_
  refine A_istore_n d_124_1 ml_124 rfl rfl ?_
  refine A_iconst d_124_2 ic_0 ?_
  refine A_istore_n d_124_3 ml_124 rfl rfl ?_
  obtain ⟨y1, M2, hl, hf⟩ := bnd_some hf
  refine t_Plan_priceOf_l4 (fun hW => ?_) ha0 fu _ _ _ hW  hl
  refine P_iload_n d_124_33 rfl ?_
  exact A_iret d_124_34 mr_124 hW hf k
def f_Sets_cheapestFor_b10 (rec : Int32 → AM → Option (Unit × AM)) (v1 : Nat) (v2 : Nat) (v3 : Int32) (v4 : Int32) (M : AM) : Option (Unit × AM) :=
  bnd (f_Plan_allCords v1 M) (fun r1 M2 => if r1 < v4 then some ((), M2) else if (v4 &&& (gI M2 v2 1)) = 0 then ald 256 M2 (v1 + 8) v4 (fun x3 => if ((gI M2 v2 0) ^^^ x3) = v3 then bnd (f_Plan_priceOf v1 v4 M2) (fun r4 M5 => bnd (f_Int_bitCount v4 M5) (fun r6 M7 => bnd (f_Best_offer ((r4 * 16) + r6) v4 M7) (fun r8 M9 => rec (v4 + 1) M9))) else rec (v4 + 1) M2) else rec (v4 + 1) M2)
def f_Sets_cheapestFor_l10 (v1 : Nat) (v2 : Nat) (v3 : Int32) : Nat → Int32 → AM → Option (Unit × AM)
  | 0, _, _ => none
  | n + 1, v4, M => f_Sets_cheapestFor_b10 (f_Sets_cheapestFor_l10 v1 v2 v3 n) v1 v2 v3 v4 M
set_option maxRecDepth 20000 in
theorem t_Sets_cheapestFor_b10 {G : GT} {d : Nat} {v1 : Nat} {v2 : Nat} {v3 : Int32} {v4 : Int32} {M : AM} {Q : AM → Option Value → Prop} {yo : Unit} {Mo : AM} {rec : Int32 → AM → Option (Unit × AM)} (hrec : ∀ (v4 : Int32) (M : AM), WT M → rec v4 M = some (yo, Mo) → PW G (d + 1) 123 10 [.ref 86, .ref v1, .ref v2, .int v3, .int v4] [] M 0 0 Q) (k1 : WT Mo → PW G (d + 1) 123 75 [.ref 86, ux, ux, ux, ux] [] Mo 0 0 Q) (hW : WT M) (hv1 : kd0 v1 = 5) (hv2 : kd0 v2 = 9)  (hf : f_Sets_cheapestFor_b10 rec v1 v2 v3 v4 M = some (yo, Mo)) : PW G (d + 1) 123 10 [.ref 86, .ref v1, .ref v2, .int v3, .int v4] [] M 0 0 Q := by
  refine P_iload d_123_10 rfl ?_
  refine P_aload_n d_123_12 rfl ?_
  refine A_V0 d_123_13 vk_123_33 ml_117 rfl hv1 hW rfl hf (fun r1 M2 hc hf => t_Plan_allCords hW hv1 hc (fun hW => ?_))
  refine A_icmp_gt (tgt := 75) d_123_16 rfl hf (fun hf => ?_) (fun hf => ?_)
  · refine P_fgt [true, false, false, false, false] ?_
    cases hf
    exact k1 hW 
  · refine P_iload d_123_19 rfl ?_
    refine P_aload_n d_123_21 rfl ?_
    refine A_gI d_123_22 cn_123 fk_CordLoft_Sets_37 hv2 hW ?_
    refine P_iand d_123_25 ?_
    refine A_if_ne (tgt := 69) d_123_26 rfl hf (fun hf => ?_) (fun hf => ?_)
    · refine A_iinc d_123_69 ic_1 rfl ml_123 rfl rfl ?_
      refine P_goto (tgt := 10) d_123_72 rfl ?_
      exact hrec _ _ hW  hf
    · refine P_aload_n d_123_29 rfl ?_
      refine A_gI d_123_30 cn_123 fk_CordLoft_Sets_43 hv2 hW ?_
      refine P_aload_n d_123_33 rfl ?_
      refine A_gFr d_123_34 cn_123 fk_CordLoft_Sets_46 ft_5_10 hv1 hW ?_
      refine P_iload d_123_37 rfl ?_
      refine A_iald d_123_39 (kr_5_8 hv1) (lr_5_8 hv1) hW hf (fun hf => ?_)
      refine P_ixor d_123_40 ?_
      refine P_iload_n d_123_41 rfl ?_
      refine A_icmp_ne (tgt := 69) d_123_42 rfl hf (fun hf => ?_) (fun hf => ?_)
      · refine A_iinc d_123_69 ic_1 rfl ml_123 rfl rfl ?_
        refine P_goto (tgt := 10) d_123_72 rfl ?_
        exact hrec _ _ hW  hf
      · refine P_aload_n d_123_45 rfl ?_
        refine A_gF d_123_46 cn_123 fk_CordLoft_Sets_12 ft_7_0 k_86 hW ?_
        refine P_aload_n d_123_49 rfl ?_
        refine P_iload d_123_50 rfl ?_
        refine A_V1 d_123_52 vk_123_65 ml_124 rfl hv1 hW rfl hf (fun r4 M5 hc hf => t_Plan_priceOf hW hv1 hc (fun hW => ?_))
        refine P_bipush d_123_55 bi_16 ?_
        refine P_imul d_123_57 ?_
        refine P_iload d_123_58 rfl ?_
        refine A_S1 d_123_60 sk_123_52 ml_92 rfl rfl hf (fun r6 M7 hc hf => t_Int_bitCount hW  hc (fun hW => ?_))
        refine P_iadd d_123_63 ?_
        refine P_iload d_123_64 rfl ?_
        refine A_V2 d_123_66 vk_123_58 ml_121 rfl k_87 hW rfl hf (fun r8 M9 hc hf => t_Best_offer hW  hc (fun hW => ?_))
        refine A_iinc d_123_69 ic_1 rfl ml_123 rfl rfl ?_
        refine P_goto (tgt := 10) d_123_72 rfl ?_
        exact hrec _ _ hW  hf
theorem t_Sets_cheapestFor_l10 {G : GT} {d : Nat} {v1 : Nat} {v2 : Nat} {v3 : Int32} {Q : AM → Option Value → Prop} {yo : Unit} {Mo : AM} (k1 : WT Mo → PW G (d + 1) 123 75 [.ref 86, ux, ux, ux, ux] [] Mo 0 0 Q) (hv1 : kd0 v1 = 5) (hv2 : kd0 v2 = 9) : ∀ (z : Nat) (v4 : Int32) (M : AM), WT M → f_Sets_cheapestFor_l10 v1 v2 v3 z v4 M = some (yo, Mo) → PW G (d + 1) 123 10 [.ref 86, .ref v1, .ref v2, .int v3, .int v4] [] M 0 0 Q := by
  intro z
  induction z with
  | zero => intro v4 M hW hf; cases hf
  | succ z ih => intro v4 M hW hf; exact t_Sets_cheapestFor_b10 (fun v4 M hW hf => ih v4 M hW hf) k1 hW hv1 hv2  hf
def f_Sets_cheapestFor (a1 : Nat) (a2 : Nat) (a3 : Int32) (M : AM) : Option (Int32 × AM) :=
  bnd (f_Best_clear  M) (fun r1 M2 => bnd (f_Sets_cheapestFor_l10 a1 a2 a3 fu 0 M2) (fun y3 M4 => some (gI M4 87 1, M4)))
set_option maxRecDepth 20000 in
theorem t_Sets_cheapestFor {G : GT} {d : Nat} {a1 : Nat} {a2 : Nat} {a3 : Int32} {M : AM} {Q : AM → Option Value → Prop} {r : Int32} {M' : AM} (hW : WT M) (ha1 : kd0 a1 = 5) (ha2 : kd0 a2 = 9) (hf : f_Sets_cheapestFor a1 a2 a3 M = some (r, M')) (k : WT M' → Q M' (some (.int r)))  : Cal G (d + 1) 123 [.ref 86, .ref a1, .ref a2, .int a3] M Q := by
  refine A_enter ml_123 rfl ?_
  refine P_aload_n d_123_0 rfl ?_
  refine A_gF d_123_1 cn_123 fk_CordLoft_Sets_12 ft_7_0 k_86 hW ?_
  refine A_V0 d_123_4 vk_123_49 ml_120 rfl k_87 hW rfl hf (fun r1 M2 hc hf => t_Best_clear hW  hc (fun hW => ?_))
  refine A_iconst d_123_7 ic_0 ?_
  refine A_istore d_123_8 ml_123 rfl rfl ?_
  obtain ⟨y3, M4, hl, hf⟩ := bnd_some hf
  refine t_Sets_cheapestFor_l10 (fun hW => ?_) ha1 ha2 fu _ _ hW  hl
  refine P_aload_n d_123_75 rfl ?_
  refine A_gF d_123_76 cn_123 fk_CordLoft_Sets_12 ft_7_0 k_86 hW ?_
  refine A_gI d_123_79 cn_123 fk_CordLoft_Sets_62 k_87 hW ?_
  exact A_iret d_123_82 mr_123 hW hf k
def f_C_cheapest (a1 : Int32) (a2 : Int32) (M : AM) : Option (Int32 × AM) :=
  ckK (gR M 0 3) 5 (bnd (f_Acts_current  M) (fun r2 M3 => bnd (f_Sets_cheapestFor (gR M 0 3) r2 a1 M3) (fun r4 M5 => if 0 ≤ r4 then ckK (gR M5 0 3) 5 (bnd (f_Plan_priceOf (gR M5 0 3) r4 M5) (fun r7 M8 => bnd (f_C_either a2 r7 r4 M8) (fun r9 M10 => some (r9, M10)))) else some ((-1), M5))))
set_option maxRecDepth 20000 in
theorem t_C_cheapest {G : GT} {d : Nat} {a1 : Int32} {a2 : Int32} {M : AM} {Q : AM → Option Value → Prop} {r : Int32} {M' : AM} (hW : WT M)  (hf : f_C_cheapest a1 a2 M = some (r, M')) (k : WT M' → Q M' (some (.int r)))  : Cal G (d + 2) 122 [.ref 0, .int a1, .int a2] M Q := by
  refine A_enter ml_122 rfl ?_
  refine P_aload_n d_122_0 rfl ?_
  refine A_gF d_122_1 cn_122 fk_CordLoft_67 ft_12_9 k_0 hW ?_
  refine P_aload_n d_122_4 rfl ?_
  refine A_gM d_122_5 cn_122 fk_CordLoft_35 k_0 hW hf (fun hk1 hf => ?_)
  refine P_aload_n d_122_8 rfl ?_
  refine A_gF d_122_9 cn_122 fk_CordLoft_45 ft_12_5 k_0 hW ?_
  refine A_V0 d_122_12 vk_122_114 ml_78 rfl k_38 hW rfl hf (fun r2 M3 hc hf => t_Acts_current hW  hc (fun hW hb3 => ?_))
  refine P_iload_n d_122_15 rfl ?_
  refine A_V3 d_122_16 vk_122_213 ml_123 rfl k_86 hW rfl hf (fun r4 M5 hc hf => t_Sets_cheapestFor hW hk1 hb3 hc (fun hW => ?_))
  refine A_istore_n d_122_19 ml_122 rfl rfl ?_
  refine P_iload_n d_122_20 rfl ?_
  refine A_if_ge (tgt := 28) d_122_21 rfl hf (fun hf => ?_) (fun hf => ?_)
  · refine P_iload_n d_122_28 rfl ?_
    refine P_aload_n d_122_29 rfl ?_
    refine A_gM d_122_30 cn_122 fk_CordLoft_35 k_0 hW hf (fun hk6 hf => ?_)
    refine P_iload_n d_122_33 rfl ?_
    refine A_V1 d_122_34 vk_122_216 ml_124 rfl hk6 hW rfl hf (fun r7 M8 hc hf => t_Plan_priceOf hW hk6 hc (fun hW => ?_))
    refine P_iload_n d_122_37 rfl ?_
    refine A_S3 d_122_38 sk_122_132 ml_84 rfl rfl hf (fun r9 M10 hc hf => t_C_either hW  hc (fun hW => ?_))
    exact A_iret d_122_41 mr_122 hW hf k
  · refine A_iconst d_122_24 ic_m1 ?_
    refine P_goto (tgt := 41) d_122_25 rfl ?_
    exact A_iret d_122_41 mr_122 hW hf k
def f_C_ways (a1 : Int32) (M : AM) : Option (Int32 × AM) :=
  ckK (gR M 0 3) 5 (bnd (f_Plan_hasPicture (gR M 0 3) a1 M) (fun r2 M3 => if r2 = 0 then some ((-1), M3) else ckK (gR M3 0 3) 5 (bnd (f_Acts_current  M3) (fun r5 M6 => bnd (f_Sets_countFor (gR M3 0 3) r5 a1 M6) (fun r7 M8 => some (r7, M8))))))
set_option maxRecDepth 20000 in
theorem t_C_ways {G : GT} {d : Nat} {a1 : Int32} {M : AM} {Q : AM → Option Value → Prop} {r : Int32} {M' : AM} (hW : WT M)  (hf : f_C_ways a1 M = some (r, M')) (k : WT M' → Q M' (some (.int r)))  : Cal G (d + 2) 125 [.ref 0, .int a1] M Q := by
  refine A_enter ml_125 rfl ?_
  refine P_aload_n d_125_0 rfl ?_
  refine A_gM d_125_1 cn_125 fk_CordLoft_35 k_0 hW hf (fun hk1 hf => ?_)
  refine P_iload_n d_125_4 rfl ?_
  refine A_V1 d_125_5 vk_125_203 ml_114 rfl hk1 hW rfl hf (fun r2 M3 hc hf => t_Plan_hasPicture hW hk1 hc (fun hW hb3 => ?_))
  refine A_if_eq (tgt := 33) d_125_8 rfl hf (fun hf => ?_) (fun hf => ?_)
  · refine A_iconst d_125_33 ic_m1 ?_
    exact A_iret d_125_34 mr_125 hW hf k
  · refine P_aload_n d_125_11 rfl ?_
    refine A_gF d_125_12 cn_125 fk_CordLoft_67 ft_12_9 k_0 hW ?_
    refine P_aload_n d_125_15 rfl ?_
    refine A_gM d_125_16 cn_125 fk_CordLoft_35 k_0 hW hf (fun hk4 hf => ?_)
    refine P_aload_n d_125_19 rfl ?_
    refine A_gF d_125_20 cn_125 fk_CordLoft_45 ft_12_5 k_0 hW ?_
    refine A_V0 d_125_23 vk_125_114 ml_78 rfl k_38 hW rfl hf (fun r5 M6 hc hf => t_Acts_current hW  hc (fun hW hb6 => ?_))
    refine P_iload_n d_125_26 rfl ?_
    refine A_V3 d_125_27 vk_125_206 ml_116 rfl k_86 hW rfl hf (fun r7 M8 hc hf => t_Sets_countFor hW hk4 hb6 hc (fun hW => ?_))
    refine P_goto (tgt := 34) d_125_30 rfl ?_
    exact A_iret d_125_34 mr_125 hW hf k
def f_Sets_leastSilent_b9 (rec : Int32 → AM → Option (Unit × AM)) (v1 : Nat) (v2 : Nat) (v3 : Int32) (M : AM) : Option (Unit × AM) :=
  bnd (f_Plan_allCords v1 M) (fun r1 M2 => if r1 < v3 then some ((), M2) else if (v3 &&& (gI M2 v2 1)) = 0 then ald 256 M2 (v1 + 8) v3 (fun x3 => if x3 = 0 then bnd (f_Int_bitCount v3 M2) (fun r4 M5 => bnd (f_Best_offer r4 v3 M5) (fun r6 M7 => rec (v3 + 1) M7)) else rec (v3 + 1) M2) else rec (v3 + 1) M2)
def f_Sets_leastSilent_l9 (v1 : Nat) (v2 : Nat) : Nat → Int32 → AM → Option (Unit × AM)
  | 0, _, _ => none
  | n + 1, v3, M => f_Sets_leastSilent_b9 (f_Sets_leastSilent_l9 v1 v2 n) v1 v2 v3 M
set_option maxRecDepth 20000 in
theorem t_Sets_leastSilent_b9 {G : GT} {d : Nat} {v1 : Nat} {v2 : Nat} {v3 : Int32} {M : AM} {Q : AM → Option Value → Prop} {yo : Unit} {Mo : AM} {rec : Int32 → AM → Option (Unit × AM)} (hrec : ∀ (v3 : Int32) (M : AM), WT M → rec v3 M = some (yo, Mo) → PW G (d + 1) 127 9 [.ref 86, .ref v1, .ref v2, .int v3] [] M 0 0 Q) (k1 : WT Mo → PW G (d + 1) 127 53 [.ref 86, ux, ux, ux] [] Mo 0 0 Q) (hW : WT M) (hv1 : kd0 v1 = 5) (hv2 : kd0 v2 = 9)  (hf : f_Sets_leastSilent_b9 rec v1 v2 v3 M = some (yo, Mo)) : PW G (d + 1) 127 9 [.ref 86, .ref v1, .ref v2, .int v3] [] M 0 0 Q := by
  refine P_iload_n d_127_9 rfl ?_
  refine P_aload_n d_127_10 rfl ?_
  refine A_V0 d_127_11 vk_127_33 ml_117 rfl hv1 hW rfl hf (fun r1 M2 hc hf => t_Plan_allCords hW hv1 hc (fun hW => ?_))
  refine A_icmp_gt (tgt := 53) d_127_14 rfl hf (fun hf => ?_) (fun hf => ?_)
  · refine P_fgt [true, false, false, false] ?_
    cases hf
    exact k1 hW 
  · refine P_iload_n d_127_17 rfl ?_
    refine P_aload_n d_127_18 rfl ?_
    refine A_gI d_127_19 cn_127 fk_CordLoft_Sets_37 hv2 hW ?_
    refine P_iand d_127_22 ?_
    refine A_if_ne (tgt := 47) d_127_23 rfl hf (fun hf => ?_) (fun hf => ?_)
    · refine A_iinc d_127_47 ic_1 rfl ml_127 rfl rfl ?_
      refine P_goto (tgt := 9) d_127_50 rfl ?_
      exact hrec _ _ hW  hf
    · refine P_aload_n d_127_26 rfl ?_
      refine A_gFr d_127_27 cn_127 fk_CordLoft_Sets_46 ft_5_10 hv1 hW ?_
      refine P_iload_n d_127_30 rfl ?_
      refine A_iald d_127_31 (kr_5_8 hv1) (lr_5_8 hv1) hW hf (fun hf => ?_)
      refine A_if_ne (tgt := 47) d_127_32 rfl hf (fun hf => ?_) (fun hf => ?_)
      · refine A_iinc d_127_47 ic_1 rfl ml_127 rfl rfl ?_
        refine P_goto (tgt := 9) d_127_50 rfl ?_
        exact hrec _ _ hW  hf
      · refine P_aload_n d_127_35 rfl ?_
        refine A_gF d_127_36 cn_127 fk_CordLoft_Sets_12 ft_7_0 k_86 hW ?_
        refine P_iload_n d_127_39 rfl ?_
        refine A_S1 d_127_40 sk_127_52 ml_92 rfl rfl hf (fun r4 M5 hc hf => t_Int_bitCount hW  hc (fun hW => ?_))
        refine P_iload_n d_127_43 rfl ?_
        refine A_V2 d_127_44 vk_127_58 ml_121 rfl k_87 hW rfl hf (fun r6 M7 hc hf => t_Best_offer hW  hc (fun hW => ?_))
        refine A_iinc d_127_47 ic_1 rfl ml_127 rfl rfl ?_
        refine P_goto (tgt := 9) d_127_50 rfl ?_
        exact hrec _ _ hW  hf
theorem t_Sets_leastSilent_l9 {G : GT} {d : Nat} {v1 : Nat} {v2 : Nat} {Q : AM → Option Value → Prop} {yo : Unit} {Mo : AM} (k1 : WT Mo → PW G (d + 1) 127 53 [.ref 86, ux, ux, ux] [] Mo 0 0 Q) (hv1 : kd0 v1 = 5) (hv2 : kd0 v2 = 9) : ∀ (z : Nat) (v3 : Int32) (M : AM), WT M → f_Sets_leastSilent_l9 v1 v2 z v3 M = some (yo, Mo) → PW G (d + 1) 127 9 [.ref 86, .ref v1, .ref v2, .int v3] [] M 0 0 Q := by
  intro z
  induction z with
  | zero => intro v3 M hW hf; cases hf
  | succ z ih => intro v3 M hW hf; exact t_Sets_leastSilent_b9 (fun v3 M hW hf => ih v3 M hW hf) k1 hW hv1 hv2  hf
def f_Sets_leastSilent (a1 : Nat) (a2 : Nat) (M : AM) : Option (Int32 × AM) :=
  bnd (f_Best_clear  M) (fun r1 M2 => bnd (f_Sets_leastSilent_l9 a1 a2 fu 1 M2) (fun y3 M4 => some (gI M4 87 1, M4)))
set_option maxRecDepth 20000 in
theorem t_Sets_leastSilent {G : GT} {d : Nat} {a1 : Nat} {a2 : Nat} {M : AM} {Q : AM → Option Value → Prop} {r : Int32} {M' : AM} (hW : WT M) (ha1 : kd0 a1 = 5) (ha2 : kd0 a2 = 9) (hf : f_Sets_leastSilent a1 a2 M = some (r, M')) (k : WT M' → Q M' (some (.int r)))  : Cal G (d + 1) 127 [.ref 86, .ref a1, .ref a2] M Q := by
  refine A_enter ml_127 rfl ?_
  refine P_aload_n d_127_0 rfl ?_
  refine A_gF d_127_1 cn_127 fk_CordLoft_Sets_12 ft_7_0 k_86 hW ?_
  refine A_V0 d_127_4 vk_127_49 ml_120 rfl k_87 hW rfl hf (fun r1 M2 hc hf => t_Best_clear hW  hc (fun hW => ?_))
  refine A_iconst d_127_7 ic_1 ?_
  refine A_istore_n d_127_8 ml_127 rfl rfl ?_
  obtain ⟨y3, M4, hl, hf⟩ := bnd_some hf
  refine t_Sets_leastSilent_l9 (fun hW => ?_) ha1 ha2 fu _ _ hW  hl
  refine P_aload_n d_127_53 rfl ?_
  refine A_gF d_127_54 cn_127 fk_CordLoft_Sets_12 ft_7_0 k_86 hW ?_
  refine A_gI d_127_57 cn_127 fk_CordLoft_Sets_62 k_87 hW ?_
  exact A_iret d_127_60 mr_127 hW hf k
end
