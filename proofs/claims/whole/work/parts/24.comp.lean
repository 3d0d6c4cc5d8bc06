noncomputable section
def f_C_burning  (M : AM) : Option (Int32 × AM) :=
  bnd (f_Acts_current  M) (fun r1 M2 => bnd (f_Int_bitCount (gI M2 r1 0) M2) (fun r3 M4 => some (r3, M4)))
set_option maxRecDepth 20000 in
theorem t_C_burning {G : GT} {d : Nat}  {M : AM} {Q : AM → Option Value → Prop} {r : Int32} {M' : AM} (hW : WT M)  (hf : f_C_burning  M = some (r, M')) (k : WT M' → Q M' (some (.int r)))  : Cal G (d + 1) 172 [.ref 0] M Q := by
  refine A_enter ml_172 rfl ?_
  refine P_aload_n d_172_0 rfl ?_
  refine A_gF d_172_1 cn_172 fk_CordLoft_45 ft_12_5 k_0 hW ?_
  refine A_V0 d_172_4 vk_172_114 ml_78 rfl k_38 hW rfl hf (fun r1 M2 hc hf => t_Acts_current hW  hc (fun hW hb2 => ?_))
  refine A_gI d_172_7 cn_172 fk_CordLoft_140 hb2 hW ?_
  refine A_S1 d_172_10 sk_172_167 ml_92 rfl rfl hf (fun r3 M4 hc hf => t_Int_bitCount hW  hc (fun hW => ?_))
  exact A_iret d_172_13 mr_172 hW hf k
def f_C_load  (M : AM) : Option (Int32 × AM) :=
  ckK (gR M 0 3) 5 (bnd (f_Acts_current  M) (fun r2 M3 => bnd (f_Plan_wattsOf (gR M 0 3) (gI M3 r2 0) M3) (fun r4 M5 => some (r4, M5))))
set_option maxRecDepth 20000 in
theorem t_C_load {G : GT} {d : Nat}  {M : AM} {Q : AM → Option Value → Prop} {r : Int32} {M' : AM} (hW : WT M)  (hf : f_C_load  M = some (r, M')) (k : WT M' → Q M' (some (.int r)))  : Cal G (d + 1) 173 [.ref 0] M Q := by
  refine A_enter ml_173 rfl ?_
  refine P_aload_n d_173_0 rfl ?_
  refine A_gM d_173_1 cn_173 fk_CordLoft_35 k_0 hW hf (fun hk1 hf => ?_)
  refine P_aload_n d_173_4 rfl ?_
  refine A_gF d_173_5 cn_173 fk_CordLoft_45 ft_12_5 k_0 hW ?_
  refine A_V0 d_173_8 vk_173_114 ml_78 rfl k_38 hW rfl hf (fun r2 M3 hc hf => t_Acts_current hW  hc (fun hW hb3 => ?_))
  refine A_gI d_173_11 cn_173 fk_CordLoft_140 hb3 hW ?_
  refine A_V1 d_173_14 vk_173_240 ml_138 rfl hk1 hW rfl hf (fun r4 M5 hc hf => t_Plan_wattsOf hW hk1 hc (fun hW => ?_))
  exact A_iret d_173_17 mr_173 hW hf k
def f_Sets_longestOf_b9 (rec : Int32 → AM → Option (Unit × AM)) (v1 : Nat) (v2 : Int32) (M : AM) : Option (Unit × AM) :=
  if (gI M v1 6) ≤ v2 then some ((), M) else ald 8 M (v1 + 6) v2 (fun x1 => bnd (f_Int_bitCount x1 M) (fun r2 M3 => bnd (f_Best_offer (-r2) v2 M3) (fun r4 M5 => rec (v2 + 1) M5)))
def f_Sets_longestOf_l9 (v1 : Nat) : Nat → Int32 → AM → Option (Unit × AM)
  | 0, _, _ => none
  | n + 1, v2, M => f_Sets_longestOf_b9 (f_Sets_longestOf_l9 v1 n) v1 v2 M
set_option maxRecDepth 20000 in
theorem t_Sets_longestOf_b9 {G : GT} {d : Nat} {v1 : Nat} {v2 : Int32} {M : AM} {Q : AM → Option Value → Prop} {yo : Unit} {Mo : AM} {rec : Int32 → AM → Option (Unit × AM)} (hrec : ∀ (v2 : Int32) (M : AM), WT M → rec v2 M = some (yo, Mo) → PW G (d + 1) 175 9 [.ref 86, .ref v1, .int v2] [] M 0 0 Q) (k1 : WT Mo → PW G (d + 1) 175 41 [.ref 86, ux, ux] [] Mo 0 0 Q) (hW : WT M) (hv1 : kd0 v1 = 5)  (hf : f_Sets_longestOf_b9 rec v1 v2 M = some (yo, Mo)) : PW G (d + 1) 175 9 [.ref 86, .ref v1, .int v2] [] M 0 0 Q := by
  refine P_iload_n d_175_9 rfl ?_
  refine P_aload_n d_175_10 rfl ?_
  refine A_gI d_175_11 cn_175 fk_CordLoft_Sets_74 hv1 hW ?_
  refine A_icmp_ge (tgt := 41) d_175_14 rfl hf (fun hf => ?_) (fun hf => ?_)
  · refine P_fgt [true, false, false] ?_
    cases hf
    exact k1 hW 
  · refine P_aload_n d_175_17 rfl ?_
    refine A_gF d_175_18 cn_175 fk_CordLoft_Sets_12 ft_7_0 k_86 hW ?_
    refine P_aload_n d_175_21 rfl ?_
    refine A_gFr d_175_22 cn_175 fk_CordLoft_Sets_77 ft_5_8 hv1 hW ?_
    refine P_iload_n d_175_25 rfl ?_
    refine A_iald d_175_26 (kr_5_6 hv1) (lr_5_6 hv1) hW hf (fun hf => ?_)
    refine A_S1 d_175_27 sk_175_52 ml_92 rfl rfl hf (fun r2 M3 hc hf => t_Int_bitCount hW  hc (fun hW => ?_))
    refine P_ineg d_175_30 ?_
    refine P_iload_n d_175_31 rfl ?_
    refine A_V2 d_175_32 vk_175_58 ml_121 rfl k_87 hW rfl hf (fun r4 M5 hc hf => t_Best_offer hW  hc (fun hW => ?_))
    refine A_iinc d_175_35 ic_1 rfl ml_175 rfl rfl ?_
    refine P_goto (tgt := 9) d_175_38 rfl ?_
    exact hrec _ _ hW  hf
theorem t_Sets_longestOf_l9 {G : GT} {d : Nat} {v1 : Nat} {Q : AM → Option Value → Prop} {yo : Unit} {Mo : AM} (k1 : WT Mo → PW G (d + 1) 175 41 [.ref 86, ux, ux] [] Mo 0 0 Q) (hv1 : kd0 v1 = 5) : ∀ (z : Nat) (v2 : Int32) (M : AM), WT M → f_Sets_longestOf_l9 v1 z v2 M = some (yo, Mo) → PW G (d + 1) 175 9 [.ref 86, .ref v1, .int v2] [] M 0 0 Q := by
  intro z
  induction z with
  | zero => intro v2 M hW hf; cases hf
  | succ z ih => intro v2 M hW hf; exact t_Sets_longestOf_b9 (fun v2 M hW hf => ih v2 M hW hf) k1 hW hv1  hf
def f_Sets_longestOf (a1 : Nat) (M : AM) : Option (Int32 × AM) :=
  bnd (f_Best_clear  M) (fun r1 M2 => bnd (f_Sets_longestOf_l9 a1 fu 0 M2) (fun y3 M4 => some (gI M4 87 1, M4)))
set_option maxRecDepth 20000 in
theorem t_Sets_longestOf {G : GT} {d : Nat} {a1 : Nat} {M : AM} {Q : AM → Option Value → Prop} {r : Int32} {M' : AM} (hW : WT M) (ha1 : kd0 a1 = 5) (hf : f_Sets_longestOf a1 M = some (r, M')) (k : WT M' → Q M' (some (.int r)))  : Cal G (d + 1) 175 [.ref 86, .ref a1] M Q := by
  refine A_enter ml_175 rfl ?_
  refine P_aload_n d_175_0 rfl ?_
  refine A_gF d_175_1 cn_175 fk_CordLoft_Sets_12 ft_7_0 k_86 hW ?_
  refine A_V0 d_175_4 vk_175_49 ml_120 rfl k_87 hW rfl hf (fun r1 M2 hc hf => t_Best_clear hW  hc (fun hW => ?_))
  refine A_iconst d_175_7 ic_0 ?_
  refine A_istore_n d_175_8 ml_175 rfl rfl ?_
  obtain ⟨y3, M4, hl, hf⟩ := bnd_some hf
  refine t_Sets_longestOf_l9 (fun hW => ?_) ha1 fu _ _ hW  hl
  refine P_aload_n d_175_41 rfl ?_
  refine A_gF d_175_42 cn_175 fk_CordLoft_Sets_12 ft_7_0 k_86 hW ?_
  refine A_gI d_175_45 cn_175 fk_CordLoft_Sets_62 k_87 hW ?_
  exact A_iret d_175_48 mr_175 hW hf k
def f_C_longest  (M : AM) : Option (Int32 × AM) :=
  ckK (gR M 0 3) 5 (bnd (f_Sets_longestOf (gR M 0 3) M) (fun r2 M3 => some (r2, M3)))
set_option maxRecDepth 20000 in
theorem t_C_longest {G : GT} {d : Nat}  {M : AM} {Q : AM → Option Value → Prop} {r : Int32} {M' : AM} (hW : WT M)  (hf : f_C_longest  M = some (r, M')) (k : WT M' → Q M' (some (.int r)))  : Cal G (d + 2) 174 [.ref 0] M Q := by
  refine A_enter ml_174 rfl ?_
  refine P_aload_n d_174_0 rfl ?_
  refine A_gF d_174_1 cn_174 fk_CordLoft_67 ft_12_9 k_0 hW ?_
  refine P_aload_n d_174_4 rfl ?_
  refine A_gM d_174_5 cn_174 fk_CordLoft_35 k_0 hW hf (fun hk1 hf => ?_)
  refine A_V1 d_174_8 vk_174_296 ml_175 rfl k_86 hW rfl hf (fun r2 M3 hc hf => t_Sets_longestOf hW hk1 hc (fun hW => ?_))
  exact A_iret d_174_11 mr_174 hW hf k
def f_C_law_b31 (rec : Int32 → Int32 → AM → Option (Int32 × AM)) (v1 : Int32) (v2 : Int32) (v3 : Int32) (v4 : Int32) (M : AM) : Option (Int32 × AM) :=
  ckK (gR M 0 3) 5 (if (gI M (gR M 0 3) 6) ≤ v4 then some (v3, M) else if ((v2 >>> (v4 &&& 31)) &&& 1) = 0 then rec v3 (v4 + 1) M else ckK (gR M 0 3) 5 (ald 8 M ((gR M 0 3) + 7) v4 (fun x3 => if v1 < x3 then rec v3 (v4 + 1) M else ckK (gR M 0 3) 5 (ald 8 M ((gR M 0 3) + 6) v4 (fun x5 => rec (v3 ^^^ x5) (v4 + 1) M)))))
def f_C_law_l31 (v1 : Int32) (v2 : Int32) : Nat → Int32 → Int32 → AM → Option (Int32 × AM)
  | 0, _, _, _ => none
  | n + 1, v3, v4, M => f_C_law_b31 (f_C_law_l31 v1 v2 n) v1 v2 v3 v4 M
set_option maxRecDepth 20000 in
theorem t_C_law_b31 {G : GT} {d : Nat} {v1 : Int32} {v2 : Int32} {v3 : Int32} {v4 : Int32} {M : AM} {Q : AM → Option Value → Prop} {yo : Int32} {Mo : AM} {rec : Int32 → Int32 → AM → Option (Int32 × AM)} (hrec : ∀ (v3 : Int32) (v4 : Int32) (M : AM), WT M → rec v3 v4 M = some (yo, Mo) → PW G (d + 2) 176 31 [.ref 0, .int v1, .int v2, .int v3, .int v4] [] M 0 0 Q) (k1 : WT Mo → PW G (d + 2) 176 85 [ux, ux, ux, .int yo, ux] [] Mo 0 0 Q) (hW : WT M)   (hf : f_C_law_b31 rec v1 v2 v3 v4 M = some (yo, Mo)) : PW G (d + 2) 176 31 [.ref 0, .int v1, .int v2, .int v3, .int v4] [] M 0 0 Q := by
  refine P_iload d_176_31 rfl ?_
  refine P_aload_n d_176_33 rfl ?_
  refine A_gM d_176_34 cn_176 fk_CordLoft_35 k_0 hW hf (fun hk1 hf => ?_)
  refine A_gI d_176_37 cn_176 fk_CordLoft_231 hk1 hW ?_
  refine A_icmp_ge (tgt := 85) d_176_40 rfl hf (fun hf => ?_) (fun hf => ?_)
  · refine P_fgt [false, false, false, true, false] ?_
    cases hf
    exact k1 hW 
  · refine P_iload_n d_176_43 rfl ?_
    refine P_iload d_176_44 rfl ?_
    refine P_ishr d_176_46 ?_
    refine A_iconst d_176_47 ic_1 ?_
    refine P_iand d_176_48 ?_
    refine A_if_eq (tgt := 79) d_176_49 rfl hf (fun hf => ?_) (fun hf => ?_)
    · refine A_iinc d_176_79 ic_1 rfl ml_176 rfl rfl ?_
      refine P_goto (tgt := 31) d_176_82 rfl ?_
      exact hrec _ _ _ hW  hf
    · refine P_aload_n d_176_52 rfl ?_
      refine A_gM d_176_53 cn_176 fk_CordLoft_35 k_0 hW hf (fun hk2 hf => ?_)
      refine A_gFr d_176_56 cn_176 fk_CordLoft_158 ft_5_9 hk2 hW ?_
      refine P_iload d_176_59 rfl ?_
      refine A_iald d_176_61 (kr_5_7 hk2) (lr_5_7 hk2) hW hf (fun hf => ?_)
      refine P_iload_n d_176_62 rfl ?_
      refine A_icmp_gt (tgt := 79) d_176_63 rfl hf (fun hf => ?_) (fun hf => ?_)
      · refine A_iinc d_176_79 ic_1 rfl ml_176 rfl rfl ?_
        refine P_goto (tgt := 31) d_176_82 rfl ?_
        exact hrec _ _ _ hW  hf
      · refine P_iload_n d_176_66 rfl ?_
        refine P_aload_n d_176_67 rfl ?_
        refine A_gM d_176_68 cn_176 fk_CordLoft_35 k_0 hW hf (fun hk4 hf => ?_)
        refine A_gFr d_176_71 cn_176 fk_CordLoft_155 ft_5_8 hk4 hW ?_
        refine P_iload d_176_74 rfl ?_
        refine A_iald d_176_76 (kr_5_6 hk4) (lr_5_6 hk4) hW hf (fun hf => ?_)
        refine P_ixor d_176_77 ?_
        refine A_istore_n d_176_78 ml_176 rfl rfl ?_
        refine A_iinc d_176_79 ic_1 rfl ml_176 rfl rfl ?_
        refine P_goto (tgt := 31) d_176_82 rfl ?_
        exact hrec _ _ _ hW  hf
theorem t_C_law_l31 {G : GT} {d : Nat} {v1 : Int32} {v2 : Int32} {Q : AM → Option Value → Prop} {yo : Int32} {Mo : AM} (k1 : WT Mo → PW G (d + 2) 176 85 [ux, ux, ux, .int yo, ux] [] Mo 0 0 Q)  : ∀ (z : Nat) (v3 : Int32) (v4 : Int32) (M : AM), WT M → f_C_law_l31 v1 v2 z v3 v4 M = some (yo, Mo) → PW G (d + 2) 176 31 [.ref 0, .int v1, .int v2, .int v3, .int v4] [] M 0 0 Q := by
  intro z
  induction z with
  | zero => intro v3 v4 M hW hf; cases hf
  | succ z ih => intro v3 v4 M hW hf; exact t_C_law_b31 (fun v3 v4 M hW hf => ih v3 v4 M hW hf) k1 hW   hf
def f_C_law (a1 : Int32) (M : AM) : Option (Int32 × AM) :=
  if a1 < 0 then some ((-1), M) else if a1 ≤ 20 then bnd (f_C_freeCords  M) (fun r1 M2 => bnd (f_Acts_current  M2) (fun r3 M4 => bnd (f_C_law_l31 a1 r1 fu (gI M4 r3 0) 0 M4) (fun y5 M6 => bnd (f_Int_bitCount y5 M6) (fun r7 M8 => some (r7, M8))))) else some ((-1), M)
set_option maxRecDepth 20000 in
theorem t_C_law {G : GT} {d : Nat} {a1 : Int32} {M : AM} {Q : AM → Option Value → Prop} {r : Int32} {M' : AM} (hW : WT M)  (hf : f_C_law a1 M = some (r, M')) (k : WT M' → Q M' (some (.int r)))  : Cal G (d + 2) 176 [.ref 0, .int a1] M Q := by
  refine A_enter ml_176 rfl ?_
  refine P_iload_n d_176_0 rfl ?_
  refine A_if_lt (tgt := 10) d_176_1 rfl hf (fun hf => ?_) (fun hf => ?_)
  · refine A_iconst d_176_10 ic_m1 ?_
    exact A_iret d_176_11 mr_176 hW hf k
  · refine P_iload_n d_176_4 rfl ?_
    refine P_bipush d_176_5 bi_20 ?_
    refine A_icmp_le (tgt := 12) d_176_7 rfl hf (fun hf => ?_) (fun hf => ?_)
    · refine P_aload_n d_176_12 rfl ?_
      refine A_V0 d_176_13 vk_176_223 ml_129 rfl k_0 hW rfl hf (fun r1 M2 hc hf => t_C_freeCords hW  hc (fun hW => ?_))
      refine A_istore_n d_176_16 ml_176 rfl rfl ?_
      refine P_aload_n d_176_17 rfl ?_
      refine A_gF d_176_18 cn_176 fk_CordLoft_45 ft_12_5 k_0 hW ?_
      refine A_V0 d_176_21 vk_176_114 ml_78 rfl k_38 hW rfl hf (fun r3 M4 hc hf => t_Acts_current hW  hc (fun hW hb4 => ?_))
      refine A_gI d_176_24 cn_176 fk_CordLoft_140 hb4 hW ?_
      refine A_istore_n d_176_27 ml_176 rfl rfl ?_
      refine A_iconst d_176_28 ic_0 ?_
      refine A_istore d_176_29 ml_176 rfl rfl ?_
      obtain ⟨y5, M6, hl, hf⟩ := bnd_some hf
      refine t_C_law_l31 (fun hW => ?_)  fu _ _ _ hW  hl
      refine P_iload_n d_176_85 rfl ?_
      refine A_S1 d_176_86 sk_176_167 ml_92 rfl rfl hf (fun r7 M8 hc hf => t_Int_bitCount hW  hc (fun hW => ?_))
      exact A_iret d_176_89 mr_176 hW hf k
    · refine A_iconst d_176_10 ic_m1 ?_
      exact A_iret d_176_11 mr_176 hW hf k
def f_C_commonDivisor_b7 (rec : Int32 → Int32 → Int32 → AM → Option (Int32 × AM))  (v2 : Int32) (v3 : Int32) (v4 : Int32) (M : AM) : Option (Int32 × AM) :=
  if 100 ≤ v4 then some (v2, M) else if v3 = 0 then some (v2, M) else dvz v3 (rec v3 (v2 % v3) (v4 + 1) M)
def f_C_commonDivisor_l7  : Nat → Int32 → Int32 → Int32 → AM → Option (Int32 × AM)
  | 0, _, _, _, _ => none
  | n + 1, v2, v3, v4, M => f_C_commonDivisor_b7 (f_C_commonDivisor_l7  n)  v2 v3 v4 M
set_option maxRecDepth 20000 in
theorem t_C_commonDivisor_b7 {G : GT} {d : Nat}  {v2 : Int32} {v3 : Int32} {v4 : Int32} {M : AM} {Q : AM → Option Value → Prop} {yo : Int32} {Mo : AM} {rec : Int32 → Int32 → Int32 → AM → Option (Int32 × AM)} (hrec : ∀ (v2 : Int32) (v3 : Int32) (v4 : Int32) (M : AM), WT M → rec v2 v3 v4 M = some (yo, Mo) → PW G d 178 7 [ux, ux, .int v2, .int v3, .int v4, ux] [] M 0 0 Q) (k1 : WT Mo → PW G d 178 34 [ux, ux, .int yo, ux, ux, ux] [] Mo 0 0 Q) (hW : WT M)   (hf : f_C_commonDivisor_b7 rec  v2 v3 v4 M = some (yo, Mo)) : PW G d 178 7 [ux, ux, .int v2, .int v3, .int v4, ux] [] M 0 0 Q := by
  refine P_iload d_178_7 rfl ?_
  refine P_bipush d_178_9 bi_100 ?_
  refine A_icmp_ge (tgt := 34) d_178_11 rfl hf (fun hf => ?_) (fun hf => ?_)
  · refine P_fgt [false, false, true, false, false, false] ?_
    cases hf
    exact k1 hW 
  · refine P_iload_n d_178_14 rfl ?_
    refine A_if_eq (tgt := 34) d_178_15 rfl hf (fun hf => ?_) (fun hf => ?_)
    · refine P_fgt [false, false, true, false, false, false] ?_
      cases hf
      exact k1 hW 
    · refine P_iload_n d_178_18 rfl ?_
      refine P_iload_n d_178_19 rfl ?_
      refine A_irem d_178_20 hf (fun hf => ?_)
      refine A_istore d_178_21 ml_178 rfl rfl ?_
      refine P_iload_n d_178_23 rfl ?_
      refine A_istore_n d_178_24 ml_178 rfl rfl ?_
      refine P_iload d_178_25 rfl ?_
      refine A_istore_n d_178_27 ml_178 rfl rfl ?_
      refine A_iinc d_178_28 ic_1 rfl ml_178 rfl rfl ?_
      refine P_goto (tgt := 7) d_178_31 rfl ?_
      refine P_fgt [false, false, true, true, true, false] ?_
      exact hrec _ _ _ _ hW  hf
theorem t_C_commonDivisor_l7 {G : GT} {d : Nat}  {Q : AM → Option Value → Prop} {yo : Int32} {Mo : AM} (k1 : WT Mo → PW G d 178 34 [ux, ux, .int yo, ux, ux, ux] [] Mo 0 0 Q)  : ∀ (z : Nat) (v2 : Int32) (v3 : Int32) (v4 : Int32) (M : AM), WT M → f_C_commonDivisor_l7  z v2 v3 v4 M = some (yo, Mo) → PW G d 178 7 [ux, ux, .int v2, .int v3, .int v4, ux] [] M 0 0 Q := by
  intro z
  induction z with
  | zero => intro v2 v3 v4 M hW hf; cases hf
  | succ z ih => intro v2 v3 v4 M hW hf; exact t_C_commonDivisor_b7 (fun v2 v3 v4 M hW hf => ih v2 v3 v4 M hW hf) k1 hW   hf
def f_C_commonDivisor (a0 : Int32) (a1 : Int32) (M : AM) : Option (Int32 × AM) :=
  bnd (f_C_commonDivisor_l7  fu a0 a1 0 M) (fun y1 M2 => some (y1, M2))
set_option maxRecDepth 20000 in
theorem t_C_commonDivisor {G : GT} {d : Nat} {a0 : Int32} {a1 : Int32} {M : AM} {Q : AM → Option Value → Prop} {r : Int32} {M' : AM} (hW : WT M)  (hf : f_C_commonDivisor a0 a1 M = some (r, M')) (k : WT M' → Q M' (some (.int r)))  : Cal G d 178 [.int a0, .int a1] M Q := by
  refine A_enter ml_178 rfl ?_
  refine P_iload_n d_178_0 rfl ?_
  refine A_istore_n d_178_1 ml_178 rfl rfl ?_
  refine P_iload_n d_178_2 rfl ?_
  refine A_istore_n d_178_3 ml_178 rfl rfl ?_
  refine A_iconst d_178_4 ic_0 ?_
  refine A_istore d_178_5 ml_178 rfl rfl ?_
  obtain ⟨y1, M2, hl, hf⟩ := bnd_some hf
  refine P_fgt [false, false, true, true, true, false] ?_
  refine t_C_commonDivisor_l7 (fun hW => ?_)  fu _ _ _ _ hW  hl
  refine P_iload_n d_178_34 rfl ?_
  exact A_iret d_178_35 mr_178 hW hf k
def f_C_odds_b19 (rec : Int32 → Int32 → Int32 → AM → Option ((Int32 × Int32) × AM)) (v1 : Int32) (v2 : Int32) (v3 : Int32) (v4 : Int32) (v5 : Int32) (M : AM) : Option ((Int32 × Int32) × AM) :=
  if v1 ≤ v5 then some ((v3, v4), M) else ckK (gR M 0 3) 5 (rec (v3 * (100 - (gI M (gR M 0 3) 15))) (v4 * 100) (v5 + 1) M)
def f_C_odds_l19 (v1 : Int32) (v2 : Int32) : Nat → Int32 → Int32 → Int32 → AM → Option ((Int32 × Int32) × AM)
  | 0, _, _, _, _ => none
  | n + 1, v3, v4, v5, M => f_C_odds_b19 (f_C_odds_l19 v1 v2 n) v1 v2 v3 v4 v5 M
set_option maxRecDepth 20000 in
theorem t_C_odds_b19 {G : GT} {d : Nat} {v1 : Int32} {v2 : Int32} {v3 : Int32} {v4 : Int32} {v5 : Int32} {M : AM} {Q : AM → Option Value → Prop} {yo : Int32 × Int32} {Mo : AM} {rec : Int32 → Int32 → Int32 → AM → Option ((Int32 × Int32) × AM)} (hrec : ∀ (v3 : Int32) (v4 : Int32) (v5 : Int32) (M : AM), WT M → rec v3 v4 v5 M = some (yo, Mo) → PW G (d + 1) 177 19 [.ref 0, .int v1, .int v2, .int v3, .int v4, .int v5] [] M 0 0 Q) (k1 : WT Mo → PW G (d + 1) 177 51 [ux, ux, .int v2, .int yo.1, .int yo.2, ux] [] Mo 0 0 Q) (hW : WT M)   (hf : f_C_odds_b19 rec v1 v2 v3 v4 v5 M = some (yo, Mo)) : PW G (d + 1) 177 19 [.ref 0, .int v1, .int v2, .int v3, .int v4, .int v5] [] M 0 0 Q := by
  refine P_iload d_177_19 rfl ?_
  refine P_iload_n d_177_21 rfl ?_
  refine A_icmp_ge (tgt := 51) d_177_22 rfl hf (fun hf => ?_) (fun hf => ?_)
  · refine P_fgt [false, false, true, true, true, false] ?_
    cases hf
    exact k1 hW 
  · refine P_iload_n d_177_25 rfl ?_
    refine P_bipush d_177_26 bi_100 ?_
    refine P_aload_n d_177_28 rfl ?_
    refine A_gM d_177_29 cn_177 fk_CordLoft_35 k_0 hW hf (fun hk1 hf => ?_)
    refine A_gI d_177_32 cn_177 fk_CordLoft_300 hk1 hW ?_
    refine P_isub d_177_35 ?_
    refine P_imul d_177_36 ?_
    refine A_istore_n d_177_37 ml_177 rfl rfl ?_
    refine P_iload d_177_38 rfl ?_
    refine P_bipush d_177_40 bi_100 ?_
    refine P_imul d_177_42 ?_
    refine A_istore d_177_43 ml_177 rfl rfl ?_
    refine A_iinc d_177_45 ic_1 rfl ml_177 rfl rfl ?_
    refine P_goto (tgt := 19) d_177_48 rfl ?_
    exact hrec _ _ _ _ hW  hf
theorem t_C_odds_l19 {G : GT} {d : Nat} {v1 : Int32} {v2 : Int32} {Q : AM → Option Value → Prop} {yo : Int32 × Int32} {Mo : AM} (k1 : WT Mo → PW G (d + 1) 177 51 [ux, ux, .int v2, .int yo.1, .int yo.2, ux] [] Mo 0 0 Q)  : ∀ (z : Nat) (v3 : Int32) (v4 : Int32) (v5 : Int32) (M : AM), WT M → f_C_odds_l19 v1 v2 z v3 v4 v5 M = some (yo, Mo) → PW G (d + 1) 177 19 [.ref 0, .int v1, .int v2, .int v3, .int v4, .int v5] [] M 0 0 Q := by
  intro z
  induction z with
  | zero => intro v3 v4 v5 M hW hf; cases hf
  | succ z ih => intro v3 v4 v5 M hW hf; exact t_C_odds_b19 (fun v3 v4 v5 M hW hf => ih v3 v4 v5 M hW hf) k1 hW   hf
def f_C_odds (a1 : Int32) (a2 : Int32) (M : AM) : Option (Int32 × AM) :=
  if a1 < 0 then some ((-1), M) else if a1 ≤ 4 then bnd (f_C_odds_l19 a1 a2 fu 1 1 0 M) (fun y1 M2 => bnd (f_C_commonDivisor y1.1 y1.2 M2) (fun r3 M4 => if 1 ≤ r3 then dvz r3 (dvz r3 (bnd (f_C_either a2 (y1.1 / r3) (y1.2 / r3) M4) (fun r5 M6 => some (r5, M6)))) else some ((-1), M4))) else some ((-1), M)
set_option maxRecDepth 20000 in
theorem t_C_odds {G : GT} {d : Nat} {a1 : Int32} {a2 : Int32} {M : AM} {Q : AM → Option Value → Prop} {r : Int32} {M' : AM} (hW : WT M)  (hf : f_C_odds a1 a2 M = some (r, M')) (k : WT M' → Q M' (some (.int r)))  : Cal G (d + 1) 177 [.ref 0, .int a1, .int a2] M Q := by
  refine A_enter ml_177 rfl ?_
  refine P_iload_n d_177_0 rfl ?_
  refine A_if_lt (tgt := 9) d_177_1 rfl hf (fun hf => ?_) (fun hf => ?_)
  · refine A_iconst d_177_9 ic_m1 ?_
    exact A_iret d_177_10 mr_177 hW hf k
  · refine P_iload_n d_177_4 rfl ?_
    refine A_iconst d_177_5 ic_4 ?_
    refine A_icmp_le (tgt := 11) d_177_6 rfl hf (fun hf => ?_) (fun hf => ?_)
    · refine A_iconst d_177_11 ic_1 ?_
      refine A_istore_n d_177_12 ml_177 rfl rfl ?_
      refine A_iconst d_177_13 ic_1 ?_
      refine A_istore d_177_14 ml_177 rfl rfl ?_
      refine A_iconst d_177_16 ic_0 ?_
      refine A_istore d_177_17 ml_177 rfl rfl ?_
      obtain ⟨y1, M2, hl, hf⟩ := bnd_some hf
      refine t_C_odds_l19 (fun hW => ?_)  fu _ _ _ _ hW  hl
      refine P_iload_n d_177_51 rfl ?_
      refine P_iload d_177_52 rfl ?_
      refine A_S2 d_177_54 sk_177_303 ml_178 rfl rfl hf (fun r3 M4 hc hf => t_C_commonDivisor hW  hc (fun hW => ?_))
      refine A_istore d_177_57 ml_177 rfl rfl ?_
      refine P_iload d_177_59 rfl ?_
      refine A_iconst d_177_61 ic_1 ?_
      refine A_icmp_ge (tgt := 69) d_177_62 rfl hf (fun hf => ?_) (fun hf => ?_)
      · refine P_iload_n d_177_69 rfl ?_
        refine P_iload_n d_177_70 rfl ?_
        refine P_iload d_177_71 rfl ?_
        refine A_idiv d_177_73 hf (fun hf => ?_)
        refine P_iload d_177_74 rfl ?_
        refine P_iload d_177_76 rfl ?_
        refine A_idiv d_177_78 hf (fun hf => ?_)
        refine A_S3 d_177_79 sk_177_132 ml_84 rfl rfl hf (fun r5 M6 hc hf => t_C_either hW  hc (fun hW => ?_))
        exact A_iret d_177_82 mr_177 hW hf k
      · refine A_iconst d_177_65 ic_m1 ?_
        refine P_goto (tgt := 82) d_177_66 rfl ?_
        exact A_iret d_177_82 mr_177 hW hf k
    · refine A_iconst d_177_9 ic_m1 ?_
      exact A_iret d_177_10 mr_177 hW hf k
def f_C_lies_j15  (M : AM) : Option (Int32 × AM) :=
  some ((-1), M)
set_option maxRecDepth 20000 in
theorem t_C_lies_j15 {G : GT} {d : Nat}  {M : AM} {Q : AM → Option Value → Prop} {r : Int32} {M' : AM} (k : WT M' → Q M' (some (.int r))) (hW : WT M)  (hf : f_C_lies_j15  M = some (r, M')) : PW G d 179 15 [ux, ux] [] M 0 0 Q := by
  refine A_iconst d_179_15 ic_m1 ?_
  refine P_goto (tgt := 28) d_179_16 rfl ?_
  exact A_iret d_179_28 mr_179 hW hf k
def f_C_lies (a1 : Int32) (M : AM) : Option (Int32 × AM) :=
  if a1 < 0 then f_C_lies_j15  M else if a1 < (gI M 92 7) then ald 256 M 98 a1 (fun x1 => some (x1, M)) else f_C_lies_j15  M
set_option maxRecDepth 20000 in
theorem t_C_lies {G : GT} {d : Nat} {a1 : Int32} {M : AM} {Q : AM → Option Value → Prop} {r : Int32} {M' : AM} (hW : WT M)  (hf : f_C_lies a1 M = some (r, M')) (k : WT M' → Q M' (some (.int r)))  : Cal G d 179 [.ref 0, .int a1] M Q := by
  refine A_enter ml_179 rfl ?_
  refine P_iload_n d_179_0 rfl ?_
  refine A_if_lt (tgt := 15) d_179_1 rfl hf (fun hf => ?_) (fun hf => ?_)
  · refine P_fgt [false, false] ?_
    exact t_C_lies_j15 k hW  hf
  · refine P_iload_n d_179_4 rfl ?_
    refine P_aload_n d_179_5 rfl ?_
    refine A_gF d_179_6 cn_179 fk_CordLoft_74 ft_12_10 k_0 hW ?_
    refine A_gI d_179_9 cn_179 fk_CordLoft_306 k_92 hW ?_
    refine A_icmp_lt (tgt := 19) d_179_12 rfl hf (fun hf => ?_) (fun hf => ?_)
    · refine P_aload_n d_179_19 rfl ?_
      refine A_gF d_179_20 cn_179 fk_CordLoft_74 ft_12_10 k_0 hW ?_
      refine A_gF d_179_23 cn_179 fk_CordLoft_309 ft_4_6 k_92 hW ?_
      refine P_iload_n d_179_26 rfl ?_
      refine A_iald d_179_27 k_98 l_98 hW hf (fun hf => ?_)
      exact A_iret d_179_28 mr_179 hW hf k
    · refine P_fgt [false, false] ?_
      exact t_C_lies_j15 k hW  hf
def f_Sight_tell (a1 : Int32) (a2 : Int32) (M : AM) : Option (Int32 × AM) :=
  if (gI M 99 6) < 30 then ast 30 M 100 (gI M 99 6) a1 (fun M1 => ckB a2 (ast 30 M1 101 (gI M1 99 6) a2 (fun M2 => ast 30 M2 102 (gI M2 99 6) (gI M2 99 7) (fun M4 => ast 30 M4 103 (gI M4 99 6) (-1) (fun M5 => wI M5 99 6 ((gI M5 99 6) + 1) (fun M6 => some ((gI M6 99 6) - 1, M6))))))) else some ((-1), M)
set_option maxRecDepth 20000 in
theorem t_Sight_tell {G : GT} {d : Nat} {a1 : Int32} {a2 : Int32} {M : AM} {Q : AM → Option Value → Prop} {r : Int32} {M' : AM} (hW : WT M)  (hf : f_Sight_tell a1 a2 M = some (r, M')) (k : WT M' → Q M' (some (.int r)))  : Cal G d 181 [.ref 99, .int a1, .int a2] M Q := by
  refine A_enter ml_181 rfl ?_
  refine P_aload_n d_181_0 rfl ?_
  refine A_gI d_181_1 cn_181 fk_CordLoft_Sight_25 k_99 hW ?_
  refine P_bipush d_181_4 bi_30 ?_
  refine A_icmp_lt (tgt := 11) d_181_6 rfl hf (fun hf => ?_) (fun hf => ?_)
  · refine P_aload_n d_181_11 rfl ?_
    refine A_gF d_181_12 cn_181 fk_CordLoft_Sight_11 ft_8_0 k_99 hW ?_
    refine P_aload_n d_181_15 rfl ?_
    refine A_gI d_181_16 cn_181 fk_CordLoft_Sight_25 k_99 hW ?_
    refine P_iload_n d_181_19 rfl ?_
    refine A_iast d_181_20 k_100 l_100 hW hf (fun hW hf => ?_)
    refine P_aload_n d_181_21 rfl ?_
    refine A_gF d_181_22 cn_181 fk_CordLoft_Sight_15 ft_8_1 k_99 hW ?_
    refine P_aload_n d_181_25 rfl ?_
    refine A_gI d_181_26 cn_181 fk_CordLoft_Sight_25 k_99 hW ?_
    refine P_iload_n d_181_29 rfl ?_
    refine A_ckB hf (fun hb3 hf => ?_)
    refine A_zast d_181_30 k_101 l_101 hW hb3 hf (fun hW hf => ?_)
    refine P_aload_n d_181_31 rfl ?_
    refine A_gF d_181_32 cn_181 fk_CordLoft_Sight_19 ft_8_2 k_99 hW ?_
    refine P_aload_n d_181_35 rfl ?_
    refine A_gI d_181_36 cn_181 fk_CordLoft_Sight_25 k_99 hW ?_
    refine P_aload_n d_181_39 rfl ?_
    refine A_gI d_181_40 cn_181 fk_CordLoft_Sight_29 k_99 hW ?_
    refine A_iast d_181_43 k_102 l_102 hW hf (fun hW hf => ?_)
    refine P_aload_n d_181_44 rfl ?_
    refine A_gF d_181_45 cn_181 fk_CordLoft_Sight_22 ft_8_3 k_99 hW ?_
    refine P_aload_n d_181_48 rfl ?_
    refine A_gI d_181_49 cn_181 fk_CordLoft_Sight_25 k_99 hW ?_
    refine A_iconst d_181_52 ic_m1 ?_
    refine A_iast d_181_53 k_103 l_103 hW hf (fun hW hf => ?_)
    refine P_aload_n d_181_54 rfl ?_
    refine P_dup d_181_55 rfl ?_
    refine A_gI d_181_56 cn_181 fk_CordLoft_Sight_25 k_99 hW ?_
    refine A_iconst d_181_59 ic_1 ?_
    refine P_iadd d_181_60 ?_
    refine A_pI d_181_61 cn_181 fp_CordLoft_Sight_25 k_99 hW hf (fun hW hf => ?_)
    refine P_aload_n d_181_64 rfl ?_
    refine A_gI d_181_65 cn_181 fk_CordLoft_Sight_25 k_99 hW ?_
    refine A_iconst d_181_68 ic_1 ?_
    refine P_isub d_181_69 ?_
    exact A_iret d_181_70 mr_181 hW hf k
  · refine A_iconst d_181_9 ic_m1 ?_
    exact A_iret d_181_10 mr_181 hW hf k
def f_C_seen (a1 : Int32) (a2 : Int32) (M : AM) : Option (Int32 × AM) :=
  ckK (gR M 0 3) 5 (bnd (f_Plan_hasLamp (gR M 0 3) a1 M) (fun r2 M3 => if r2 = 0 then some ((-1), M3) else bnd (f_Sight_tell a1 a2 M3) (fun r4 M5 => some (r4, M5))))
set_option maxRecDepth 20000 in
theorem t_C_seen {G : GT} {d : Nat} {a1 : Int32} {a2 : Int32} {M : AM} {Q : AM → Option Value → Prop} {r : Int32} {M' : AM} (hW : WT M)  (hf : f_C_seen a1 a2 M = some (r, M')) (k : WT M' → Q M' (some (.int r)))  : Cal G (d + 1) 180 [.ref 0, .int a1, .int a2] M Q := by
  refine A_enter ml_180 rfl ?_
  refine P_aload_n d_180_0 rfl ?_
  refine A_gM d_180_1 cn_180 fk_CordLoft_35 k_0 hW hf (fun hk1 hf => ?_)
  refine P_iload_n d_180_4 rfl ?_
  refine A_V1 d_180_5 vk_180_136 ml_86 rfl hk1 hW rfl hf (fun r2 M3 hc hf => t_Plan_hasLamp hW hk1 hc (fun hW hb3 => ?_))
  refine A_if_eq (tgt := 23) d_180_8 rfl hf (fun hf => ?_) (fun hf => ?_)
  · refine A_iconst d_180_23 ic_m1 ?_
    exact A_iret d_180_24 mr_180 hW hf k
  · refine P_aload_n d_180_11 rfl ?_
    refine A_gF d_180_12 cn_180 fk_CordLoft_81 ft_12_11 k_0 hW ?_
    refine P_iload_n d_180_15 rfl ?_
    refine P_iload_n d_180_16 rfl ?_
    refine A_V2 d_180_17 vk_180_312 ml_181 rfl k_99 hW rfl hf (fun r4 M5 hc hf => t_Sight_tell hW  hc (fun hW => ?_))
    refine P_goto (tgt := 24) d_180_20 rfl ?_
    exact A_iret d_180_24 mr_180 hW hf k
def f_Sight_takeOut (a1 : Int32) (M : AM) : Option (Int32 × AM) :=
  if a1 < 0 then some (0, M) else if (gI M 99 6) ≤ a1 then some (0, M) else ald 30 M 103 a1 (fun x1 => if x1 < 0 then ast 30 M 103 a1 (gI M 99 7) (fun M2 => some (1, M2)) else some (0, M))
set_option maxRecDepth 20000 in
theorem t_Sight_takeOut {G : GT} {d : Nat} {a1 : Int32} {M : AM} {Q : AM → Option Value → Prop} {r : Int32} {M' : AM} (hW : WT M)  (hf : f_Sight_takeOut a1 M = some (r, M')) (k : WT M' → (r = 0 ∨ r = 1) → Q M' (some (.int r)))  : Cal G d 183 [.ref 99, .int a1] M Q := by
  refine A_enter ml_183 rfl ?_
  refine P_iload_n d_183_0 rfl ?_
  refine A_if_lt (tgt := 21) d_183_1 rfl hf (fun hf => ?_) (fun hf => ?_)
  · refine A_iconst d_183_21 ic_0 ?_
    exact A_zret d_183_22 mr_183 hW (Or.inl rfl) hf k
  · refine P_iload_n d_183_4 rfl ?_
    refine P_aload_n d_183_5 rfl ?_
    refine A_gI d_183_6 cn_183 fk_CordLoft_Sight_25 k_99 hW ?_
    refine A_icmp_ge (tgt := 21) d_183_9 rfl hf (fun hf => ?_) (fun hf => ?_)
    · refine A_iconst d_183_21 ic_0 ?_
      exact A_zret d_183_22 mr_183 hW (Or.inl rfl) hf k
    · refine P_aload_n d_183_12 rfl ?_
      refine A_gF d_183_13 cn_183 fk_CordLoft_Sight_22 ft_8_3 k_99 hW ?_
      refine P_iload_n d_183_16 rfl ?_
      refine A_iald d_183_17 k_103 l_103 hW hf (fun hf => ?_)
      refine A_if_lt (tgt := 23) d_183_18 rfl hf (fun hf => ?_) (fun hf => ?_)
      · refine P_aload_n d_183_23 rfl ?_
        refine A_gF d_183_24 cn_183 fk_CordLoft_Sight_22 ft_8_3 k_99 hW ?_
        refine P_iload_n d_183_27 rfl ?_
        refine P_aload_n d_183_28 rfl ?_
        refine A_gI d_183_29 cn_183 fk_CordLoft_Sight_29 k_99 hW ?_
        refine A_iast d_183_32 k_103 l_103 hW hf (fun hW hf => ?_)
        refine A_iconst d_183_33 ic_1 ?_
        exact A_zret d_183_34 mr_183 hW (Or.inr rfl) hf k
      · refine A_iconst d_183_21 ic_0 ?_
        exact A_zret d_183_22 mr_183 hW (Or.inl rfl) hf k
def f_C_untell (a1 : Int32) (M : AM) : Option (Int32 × AM) :=
  bnd (f_Sight_takeOut a1 M) (fun r1 M2 => some (r1, M2))
set_option maxRecDepth 20000 in
theorem t_C_untell {G : GT} {d : Nat} {a1 : Int32} {M : AM} {Q : AM → Option Value → Prop} {r : Int32} {M' : AM} (hW : WT M)  (hf : f_C_untell a1 M = some (r, M')) (k : WT M' → (r = 0 ∨ r = 1) → Q M' (some (.int r)))  : Cal G (d + 1) 182 [.ref 0, .int a1] M Q := by
  refine A_enter ml_182 rfl ?_
  refine P_aload_n d_182_0 rfl ?_
  refine A_gF d_182_1 cn_182 fk_CordLoft_81 ft_12_11 k_0 hW ?_
  refine P_iload_n d_182_4 rfl ?_
  refine A_V1 d_182_5 vk_182_316 ml_183 rfl k_99 hW rfl hf (fun r1 M2 hc hf => t_Sight_takeOut hW  hc (fun hW hb2 => ?_))
  exact A_zret d_182_8 mr_182 hW hb2 hf k
def f_Sight_goOn (a1 : Int32) (M : AM) : Option (Int32 × AM) :=
  if a1 < 0 then some ((-1), M) else if 1000 < a1 then some ((-1), M) else if ((gI M 99 7) + a1) ≤ 100000 then wI M 99 7 ((gI M 99 7) + a1) (fun M1 => some (gI M1 99 7, M1)) else some ((-1), M)
set_option maxRecDepth 20000 in
theorem t_Sight_goOn {G : GT} {d : Nat} {a1 : Int32} {M : AM} {Q : AM → Option Value → Prop} {r : Int32} {M' : AM} (hW : WT M)  (hf : f_Sight_goOn a1 M = some (r, M')) (k : WT M' → Q M' (some (.int r)))  : Cal G d 185 [.ref 99, .int a1] M Q := by
  refine A_enter ml_185 rfl ?_
  refine P_iload_n d_185_0 rfl ?_
  refine A_if_lt (tgt := 22) d_185_1 rfl hf (fun hf => ?_) (fun hf => ?_)
  · refine A_iconst d_185_22 ic_m1 ?_
    exact A_iret d_185_23 mr_185 hW hf k
  · refine P_iload_n d_185_4 rfl ?_
    refine P_sipush d_185_5 si_1000 ?_
    refine A_icmp_gt (tgt := 22) d_185_8 rfl hf (fun hf => ?_) (fun hf => ?_)
    · refine A_iconst d_185_22 ic_m1 ?_
      exact A_iret d_185_23 mr_185 hW hf k
    · refine P_aload_n d_185_11 rfl ?_
      refine A_gI d_185_12 cn_185 fk_CordLoft_Sight_29 k_99 hW ?_
      refine P_iload_n d_185_15 rfl ?_
      refine P_iadd d_185_16 ?_
      refine A_ldc d_185_17 cn_185 cw_CordLoft_Sight_32 ?_
      refine A_icmp_le (tgt := 24) d_185_19 rfl hf (fun hf => ?_) (fun hf => ?_)
      · refine P_aload_n d_185_24 rfl ?_
        refine P_dup d_185_25 rfl ?_
        refine A_gI d_185_26 cn_185 fk_CordLoft_Sight_29 k_99 hW ?_
        refine P_iload_n d_185_29 rfl ?_
        refine P_iadd d_185_30 ?_
        refine A_pI d_185_31 cn_185 fp_CordLoft_Sight_29 k_99 hW hf (fun hW hf => ?_)
        refine P_aload_n d_185_34 rfl ?_
        refine A_gI d_185_35 cn_185 fk_CordLoft_Sight_29 k_99 hW ?_
        exact A_iret d_185_38 mr_185 hW hf k
      · refine A_iconst d_185_22 ic_m1 ?_
        exact A_iret d_185_23 mr_185 hW hf k
def f_C_later (a1 : Int32) (M : AM) : Option (Int32 × AM) :=
  bnd (f_Sight_goOn a1 M) (fun r1 M2 => some (r1, M2))
set_option maxRecDepth 20000 in
theorem t_C_later {G : GT} {d : Nat} {a1 : Int32} {M : AM} {Q : AM → Option Value → Prop} {r : Int32} {M' : AM} (hW : WT M)  (hf : f_C_later a1 M = some (r, M')) (k : WT M' → Q M' (some (.int r)))  : Cal G (d + 1) 184 [.ref 0, .int a1] M Q := by
  refine A_enter ml_184 rfl ?_
  refine P_aload_n d_184_0 rfl ?_
  refine A_gF d_184_1 cn_184 fk_CordLoft_81 ft_12_11 k_0 hW ?_
  refine P_iload_n d_184_4 rfl ?_
  refine A_V1 d_184_5 vk_184_319 ml_185 rfl k_99 hW rfl hf (fun r1 M2 hc hf => t_Sight_goOn hW  hc (fun hW => ?_))
  exact A_iret d_184_8 mr_184 hW hf k
def f_Sight_recall_j89 (rec : Int32 → AM → Option (Unit × AM)) (v1 : Int32) (v2 : Int32) (v4 : Int32) (s1 : Int32) (s2 : Int32) (M : AM) : Option (Unit × AM) :=
  wI M 99 4 (s1 ||| s2) (fun M1 => ald 30 M1 101 v2 (fun x2 => if x2 = 0 then wI M1 99 5 ((gI M1 99 5) ||| v4) (fun M3 => rec (v2 + 1) M3) else wI M1 99 5 ((gI M1 99 5) ||| 0) (fun M4 => rec (v2 + 1) M4)))
set_option maxRecDepth 20000 in
theorem t_Sight_recall_j89 {G : GT} {d : Nat} {v1 : Int32} {v2 : Int32} {v4 : Int32} {s1 : Int32} {s2 : Int32} {M : AM} {Q : AM → Option Value → Prop} {yo : Unit} {Mo : AM} {rec : Int32 → AM → Option (Unit × AM)} (hrec : ∀ (v2 : Int32) (M : AM), WT M → rec v2 M = some (yo, Mo) → PW G d 187 12 [.ref 99, .int v1, .int v2, ux, ux] [] M 0 0 Q) (k1 : WT Mo → PW G d 187 123 [ux, ux, ux, ux, ux] [] Mo 0 0 Q) (hW : WT M)  (hf : f_Sight_recall_j89 rec v1 v2 v4 s1 s2 M = some (yo, Mo)) : PW G d 187 89 [.ref 99, .int v1, .int v2, ux, .int v4] [.int s2, .int s1, .ref 99] M 0 0 Q := by
  refine P_ior d_187_89 ?_
  refine A_pI d_187_90 cn_187 fp_CordLoft_Sight_33 k_99 hW hf (fun hW hf => ?_)
  refine P_aload_n d_187_93 rfl ?_
  refine P_dup d_187_94 rfl ?_
  refine A_gI d_187_95 cn_187 fk_CordLoft_Sight_36 k_99 hW ?_
  refine P_aload_n d_187_98 rfl ?_
  refine A_gF d_187_99 cn_187 fk_CordLoft_Sight_15 ft_8_1 k_99 hW ?_
  refine P_iload_n d_187_102 rfl ?_
  refine A_zald d_187_103 k_101 l_101 hW hf (fun hf => ?_)
  refine A_if_eq (tgt := 111) d_187_104 rfl hf (fun hf => ?_) (fun hf => ?_)
  · refine P_iload d_187_111 rfl ?_
    refine P_ior d_187_113 ?_
    refine A_pI d_187_114 cn_187 fp_CordLoft_Sight_36 k_99 hW hf (fun hW hf => ?_)
    refine A_iinc d_187_117 ic_1 rfl ml_187 rfl rfl ?_
    refine P_goto (tgt := 12) d_187_120 rfl ?_
    refine P_fgt [true, true, true, false, false] ?_
    exact hrec _ _ hW  hf
  · refine A_iconst d_187_107 ic_0 ?_
    refine P_goto (tgt := 113) d_187_108 rfl ?_
    refine P_ior d_187_113 ?_
    refine A_pI d_187_114 cn_187 fp_CordLoft_Sight_36 k_99 hW hf (fun hW hf => ?_)
    refine A_iinc d_187_117 ic_1 rfl ml_187 rfl rfl ?_
    refine P_goto (tgt := 12) d_187_120 rfl ?_
    refine P_fgt [true, true, true, false, false] ?_
    exact hrec _ _ hW  hf
def f_Sight_recall_j44 (rec : Int32 → AM → Option (Unit × AM)) (v1 : Int32) (v2 : Int32) (s0 : Int32) (M : AM) : Option (Unit × AM) :=
  ald 30 M 102 v2 (fun x1 => if v1 < x1 then rec (v2 + 1) M else if s0 = 0 then ald 30 M 100 v2 (fun x2 => ald 30 M 101 v2 (fun x3 => if x3 = 0 then f_Sight_recall_j89 rec v1 v2 ((1 : Int32) <<< (x2 &&& 31)) (gI M 99 4) 0 M else f_Sight_recall_j89 rec v1 v2 ((1 : Int32) <<< (x2 &&& 31)) (gI M 99 4) ((1 : Int32) <<< (x2 &&& 31)) M)) else rec (v2 + 1) M)
set_option maxRecDepth 20000 in
theorem t_Sight_recall_j44 {G : GT} {d : Nat} {v1 : Int32} {v2 : Int32} {s0 : Int32} {M : AM} {Q : AM → Option Value → Prop} {yo : Unit} {Mo : AM} {rec : Int32 → AM → Option (Unit × AM)} (hrec : ∀ (v2 : Int32) (M : AM), WT M → rec v2 M = some (yo, Mo) → PW G d 187 12 [.ref 99, .int v1, .int v2, ux, ux] [] M 0 0 Q) (k1 : WT Mo → PW G d 187 123 [ux, ux, ux, ux, ux] [] Mo 0 0 Q) (hW : WT M)  (hf : f_Sight_recall_j44 rec v1 v2 s0 M = some (yo, Mo)) : PW G d 187 44 [.ref 99, .int v1, .int v2, ux, ux] [.int s0] M 0 0 Q := by
  refine A_istore_n d_187_44 ml_187 rfl rfl ?_
  refine P_aload_n d_187_45 rfl ?_
  refine A_gF d_187_46 cn_187 fk_CordLoft_Sight_19 ft_8_2 k_99 hW ?_
  refine P_iload_n d_187_49 rfl ?_
  refine A_iald d_187_50 k_102 l_102 hW hf (fun hf => ?_)
  refine P_iload_n d_187_51 rfl ?_
  refine A_icmp_gt (tgt := 117) d_187_52 rfl hf (fun hf => ?_) (fun hf => ?_)
  · refine A_iinc d_187_117 ic_1 rfl ml_187 rfl rfl ?_
    refine P_goto (tgt := 12) d_187_120 rfl ?_
    refine P_fgt [true, true, true, false, false] ?_
    exact hrec _ _ hW  hf
  · refine P_iload_n d_187_55 rfl ?_
    refine A_if_ne (tgt := 117) d_187_56 rfl hf (fun hf => ?_) (fun hf => ?_)
    · refine A_iinc d_187_117 ic_1 rfl ml_187 rfl rfl ?_
      refine P_goto (tgt := 12) d_187_120 rfl ?_
      refine P_fgt [true, true, true, false, false] ?_
      exact hrec _ _ hW  hf
    · refine A_iconst d_187_59 ic_1 ?_
      refine P_aload_n d_187_60 rfl ?_
      refine A_gF d_187_61 cn_187 fk_CordLoft_Sight_11 ft_8_0 k_99 hW ?_
      refine P_iload_n d_187_64 rfl ?_
      refine A_iald d_187_65 k_100 l_100 hW hf (fun hf => ?_)
      refine P_ishl d_187_66 ?_
      refine A_istore d_187_67 ml_187 rfl rfl ?_
      refine P_aload_n d_187_69 rfl ?_
      refine P_dup d_187_70 rfl ?_
      refine A_gI d_187_71 cn_187 fk_CordLoft_Sight_33 k_99 hW ?_
      refine P_aload_n d_187_74 rfl ?_
      refine A_gF d_187_75 cn_187 fk_CordLoft_Sight_15 ft_8_1 k_99 hW ?_
      refine P_iload_n d_187_78 rfl ?_
      refine A_zald d_187_79 k_101 l_101 hW hf (fun hf => ?_)
      refine A_if_eq (tgt := 88) d_187_80 rfl hf (fun hf => ?_) (fun hf => ?_)
      · refine A_iconst d_187_88 ic_0 ?_
        refine P_fgt [true, true, true, false, true] ?_
        exact t_Sight_recall_j89 hrec k1 hW  hf
      · refine P_iload d_187_83 rfl ?_
        refine P_goto (tgt := 89) d_187_85 rfl ?_
        refine P_fgt [true, true, true, false, true] ?_
        exact t_Sight_recall_j89 hrec k1 hW  hf
def f_Sight_recall_j43 (rec : Int32 → AM → Option (Unit × AM)) (v1 : Int32) (v2 : Int32) (M : AM) : Option (Unit × AM) :=
  f_Sight_recall_j44 rec v1 v2 0 M
set_option maxRecDepth 20000 in
theorem t_Sight_recall_j43 {G : GT} {d : Nat} {v1 : Int32} {v2 : Int32} {M : AM} {Q : AM → Option Value → Prop} {yo : Unit} {Mo : AM} {rec : Int32 → AM → Option (Unit × AM)} (hrec : ∀ (v2 : Int32) (M : AM), WT M → rec v2 M = some (yo, Mo) → PW G d 187 12 [.ref 99, .int v1, .int v2, ux, ux] [] M 0 0 Q) (k1 : WT Mo → PW G d 187 123 [ux, ux, ux, ux, ux] [] Mo 0 0 Q) (hW : WT M)  (hf : f_Sight_recall_j43 rec v1 v2 M = some (yo, Mo)) : PW G d 187 43 [.ref 99, .int v1, .int v2, ux, ux] [] M 0 0 Q := by
  refine A_iconst d_187_43 ic_0 ?_
  exact t_Sight_recall_j44 hrec k1 hW  hf
def f_Sight_recall_b12 (rec : Int32 → AM → Option (Unit × AM)) (v1 : Int32) (v2 : Int32) (M : AM) : Option (Unit × AM) :=
  if (gI M 99 6) ≤ v2 then some ((), M) else ald 30 M 103 v2 (fun x1 => if x1 < 0 then f_Sight_recall_j43 rec v1 v2 M else ald 30 M 103 v2 (fun x2 => if v1 < x2 then f_Sight_recall_j43 rec v1 v2 M else f_Sight_recall_j44 rec v1 v2 1 M))
def f_Sight_recall_l12 (v1 : Int32) : Nat → Int32 → AM → Option (Unit × AM)
  | 0, _, _ => none
  | n + 1, v2, M => f_Sight_recall_b12 (f_Sight_recall_l12 v1 n) v1 v2 M
set_option maxRecDepth 20000 in
theorem t_Sight_recall_b12 {G : GT} {d : Nat} {v1 : Int32} {v2 : Int32} {M : AM} {Q : AM → Option Value → Prop} {yo : Unit} {Mo : AM} {rec : Int32 → AM → Option (Unit × AM)} (hrec : ∀ (v2 : Int32) (M : AM), WT M → rec v2 M = some (yo, Mo) → PW G d 187 12 [.ref 99, .int v1, .int v2, ux, ux] [] M 0 0 Q) (k1 : WT Mo → PW G d 187 123 [ux, ux, ux, ux, ux] [] Mo 0 0 Q) (hW : WT M)   (hf : f_Sight_recall_b12 rec v1 v2 M = some (yo, Mo)) : PW G d 187 12 [.ref 99, .int v1, .int v2, ux, ux] [] M 0 0 Q := by
  refine P_iload_n d_187_12 rfl ?_
  refine P_aload_n d_187_13 rfl ?_
  refine A_gI d_187_14 cn_187 fk_CordLoft_Sight_25 k_99 hW ?_
  refine A_icmp_ge (tgt := 123) d_187_17 rfl hf (fun hf => ?_) (fun hf => ?_)
  · refine P_fgt [false, false, false, false, false] ?_
    cases hf
    exact k1 hW 
  · refine P_aload_n d_187_20 rfl ?_
    refine A_gF d_187_21 cn_187 fk_CordLoft_Sight_22 ft_8_3 k_99 hW ?_
    refine P_iload_n d_187_24 rfl ?_
    refine A_iald d_187_25 k_103 l_103 hW hf (fun hf => ?_)
    refine A_if_lt (tgt := 43) d_187_26 rfl hf (fun hf => ?_) (fun hf => ?_)
    · exact t_Sight_recall_j43 hrec k1 hW  hf
    · refine P_aload_n d_187_29 rfl ?_
      refine A_gF d_187_30 cn_187 fk_CordLoft_Sight_22 ft_8_3 k_99 hW ?_
      refine P_iload_n d_187_33 rfl ?_
      refine A_iald d_187_34 k_103 l_103 hW hf (fun hf => ?_)
      refine P_iload_n d_187_35 rfl ?_
      refine A_icmp_gt (tgt := 43) d_187_36 rfl hf (fun hf => ?_) (fun hf => ?_)
      · exact t_Sight_recall_j43 hrec k1 hW  hf
      · refine A_iconst d_187_39 ic_1 ?_
        refine P_goto (tgt := 44) d_187_40 rfl ?_
        exact t_Sight_recall_j44 hrec k1 hW  hf
theorem t_Sight_recall_l12 {G : GT} {d : Nat} {v1 : Int32} {Q : AM → Option Value → Prop} {yo : Unit} {Mo : AM} (k1 : WT Mo → PW G d 187 123 [ux, ux, ux, ux, ux] [] Mo 0 0 Q)  : ∀ (z : Nat) (v2 : Int32) (M : AM), WT M → f_Sight_recall_l12 v1 z v2 M = some (yo, Mo) → PW G d 187 12 [.ref 99, .int v1, .int v2, ux, ux] [] M 0 0 Q := by
  intro z
  induction z with
  | zero => intro v2 M hW hf; cases hf
  | succ z ih => intro v2 M hW hf; exact t_Sight_recall_b12 (fun v2 M hW hf => ih v2 M hW hf) k1 hW   hf
def f_Sight_recall (a1 : Int32) (M : AM) : Option (Unit × AM) :=
  wI M 99 4 0 (fun M1 => wI M1 99 5 0 (fun M2 => bnd (f_Sight_recall_l12 a1 fu 0 M2) (fun y3 M4 => some ((), M4))))
set_option maxRecDepth 20000 in
theorem t_Sight_recall {G : GT} {d : Nat} {a1 : Int32} {M : AM} {Q : AM → Option Value → Prop} {r : Unit} {M' : AM} (hW : WT M)  (hf : f_Sight_recall a1 M = some (r, M')) (k : WT M' → Q M' none)  : Cal G d 187 [.ref 99, .int a1] M Q := by
  refine A_enter ml_187 rfl ?_
  refine P_aload_n d_187_0 rfl ?_
  refine A_iconst d_187_1 ic_0 ?_
  refine A_pI d_187_2 cn_187 fp_CordLoft_Sight_33 k_99 hW hf (fun hW hf => ?_)
  refine P_aload_n d_187_5 rfl ?_
  refine A_iconst d_187_6 ic_0 ?_
  refine A_pI d_187_7 cn_187 fp_CordLoft_Sight_36 k_99 hW hf (fun hW hf => ?_)
  refine A_iconst d_187_10 ic_0 ?_
  refine A_istore_n d_187_11 ml_187 rfl rfl ?_
  obtain ⟨y3, M4, hl, hf⟩ := bnd_some hf
  refine t_Sight_recall_l12 (fun hW => ?_)  fu _ _ hW  hl
  exact A_ret d_187_123 mr_187 hW hf k
def f_Sight_isFitting (a1 : Nat) (a2 : Int32) (M : AM) : Option (Int32 × AM) :=
  ald 256 M (a1 + 8) a2 (fun x1 => if (((gI M a1 1) ^^^ x1) &&& (gI M 99 4)) = (gI M 99 4) then if (((gI M a1 1) ^^^ x1) &&& (gI M 99 5)) = 0 then some (1, M) else some (0, M) else some (0, M))
set_option maxRecDepth 20000 in
theorem t_Sight_isFitting {G : GT} {d : Nat} {a1 : Nat} {a2 : Int32} {M : AM} {Q : AM → Option Value → Prop} {r : Int32} {M' : AM} (hW : WT M) (ha1 : kd0 a1 = 5) (hf : f_Sight_isFitting a1 a2 M = some (r, M')) (k : WT M' → (r = 0 ∨ r = 1) → Q M' (some (.int r)))  : Cal G d 189 [.ref 99, .ref a1, .int a2] M Q := by
  refine A_enter ml_189 rfl ?_
  refine P_aload_n d_189_0 rfl ?_
  refine A_gI d_189_1 cn_189 fk_CordLoft_Sight_39 ha1 hW ?_
  refine P_aload_n d_189_4 rfl ?_
  refine A_gFr d_189_5 cn_189 fk_CordLoft_Sight_43 ft_5_10 ha1 hW ?_
  refine P_iload_n d_189_8 rfl ?_
  refine A_iald d_189_9 (kr_5_8 ha1) (lr_5_8 ha1) hW hf (fun hf => ?_)
  refine P_ixor d_189_10 ?_
  refine A_istore_n d_189_11 ml_189 rfl rfl ?_
  refine P_iload_n d_189_12 rfl ?_
  refine P_aload_n d_189_13 rfl ?_
  refine A_gI d_189_14 cn_189 fk_CordLoft_Sight_33 k_99 hW ?_
  refine P_iand d_189_17 ?_
  refine P_aload_n d_189_18 rfl ?_
  refine A_gI d_189_19 cn_189 fk_CordLoft_Sight_33 k_99 hW ?_
  refine A_icmp_ne (tgt := 38) d_189_22 rfl hf (fun hf => ?_) (fun hf => ?_)
  · refine A_iconst d_189_38 ic_0 ?_
    exact A_zret d_189_39 mr_189 hW (Or.inl rfl) hf k
  · refine P_iload_n d_189_25 rfl ?_
    refine P_aload_n d_189_26 rfl ?_
    refine A_gI d_189_27 cn_189 fk_CordLoft_Sight_36 k_99 hW ?_
    refine P_iand d_189_30 ?_
    refine A_if_ne (tgt := 38) d_189_31 rfl hf (fun hf => ?_) (fun hf => ?_)
    · refine A_iconst d_189_38 ic_0 ?_
      exact A_zret d_189_39 mr_189 hW (Or.inl rfl) hf k
    · refine A_iconst d_189_34 ic_1 ?_
      refine P_goto (tgt := 39) d_189_35 rfl ?_
      exact A_zret d_189_39 mr_189 hW (Or.inr rfl) hf k
def f_Sight_countFitting_b6 (rec : Int32 → Int32 → AM → Option (Int32 × AM)) (v1 : Nat) (v2 : Int32) (v3 : Int32) (v4 : Int32) (v5 : Int32) (M : AM) : Option (Int32 × AM) :=
  bnd (f_Plan_allCords v1 M) (fun r1 M2 => if r1 < v5 then some (v4, M2) else ald 256 M2 (v1 + 8) v5 (fun x3 => if (v5 &&& v2) = v2 then if (((gI M2 v1 1) ^^^ x3) &&& v3) = v3 then bnd (f_Sight_isFitting v1 v5 M2) (fun r4 M5 => if r4 = 0 then rec v4 (v5 + 1) M5 else rec (v4 + 1) (v5 + 1) M5) else rec v4 (v5 + 1) M2 else rec v4 (v5 + 1) M2))
def f_Sight_countFitting_l6 (v1 : Nat) (v2 : Int32) (v3 : Int32) : Nat → Int32 → Int32 → AM → Option (Int32 × AM)
  | 0, _, _, _ => none
  | n + 1, v4, v5, M => f_Sight_countFitting_b6 (f_Sight_countFitting_l6 v1 v2 v3 n) v1 v2 v3 v4 v5 M
set_option maxRecDepth 20000 in
theorem t_Sight_countFitting_b6 {G : GT} {d : Nat} {v1 : Nat} {v2 : Int32} {v3 : Int32} {v4 : Int32} {v5 : Int32} {M : AM} {Q : AM → Option Value → Prop} {yo : Int32} {Mo : AM} {rec : Int32 → Int32 → AM → Option (Int32 × AM)} (hrec : ∀ (v4 : Int32) (v5 : Int32) (M : AM), WT M → rec v4 v5 M = some (yo, Mo) → PW G (d + 1) 188 6 [.ref 99, .ref v1, .int v2, .int v3, .int v4, .int v5, ux] [] M 0 0 Q) (k1 : WT Mo → PW G (d + 1) 188 64 [ux, ux, ux, ux, .int yo, ux, ux] [] Mo 0 0 Q) (hW : WT M) (hv1 : kd0 v1 = 5)  (hf : f_Sight_countFitting_b6 rec v1 v2 v3 v4 v5 M = some (yo, Mo)) : PW G (d + 1) 188 6 [.ref 99, .ref v1, .int v2, .int v3, .int v4, .int v5, ux] [] M 0 0 Q := by
  refine P_iload d_188_6 rfl ?_
  refine P_aload_n d_188_8 rfl ?_
  refine A_V0 d_188_9 vk_188_46 ml_117 rfl hv1 hW rfl hf (fun r1 M2 hc hf => t_Plan_allCords hW hv1 hc (fun hW => ?_))
  refine A_icmp_gt (tgt := 64) d_188_12 rfl hf (fun hf => ?_) (fun hf => ?_)
  · refine P_fgt [false, false, false, false, true, false, false] ?_
    cases hf
    exact k1 hW 
  · refine P_aload_n d_188_15 rfl ?_
    refine A_gI d_188_16 cn_188 fk_CordLoft_Sight_39 hv1 hW ?_
    refine P_aload_n d_188_19 rfl ?_
    refine A_gFr d_188_20 cn_188 fk_CordLoft_Sight_43 ft_5_10 hv1 hW ?_
    refine P_iload d_188_23 rfl ?_
    refine A_iald d_188_25 (kr_5_8 hv1) (lr_5_8 hv1) hW hf (fun hf => ?_)
    refine P_ixor d_188_26 ?_
    refine A_istore d_188_27 ml_188 rfl rfl ?_
    refine P_iload d_188_29 rfl ?_
    refine P_iload_n d_188_31 rfl ?_
    refine P_iand d_188_32 ?_
    refine P_iload_n d_188_33 rfl ?_
    refine A_icmp_ne (tgt := 58) d_188_34 rfl hf (fun hf => ?_) (fun hf => ?_)
    · refine A_iinc d_188_58 ic_1 rfl ml_188 rfl rfl ?_
      refine P_goto (tgt := 6) d_188_61 rfl ?_
      refine P_fgt [true, true, true, true, true, true, false] ?_
      exact hrec _ _ _ hW  hf
    · refine P_iload d_188_37 rfl ?_
      refine P_iload_n d_188_39 rfl ?_
      refine P_iand d_188_40 ?_
      refine P_iload_n d_188_41 rfl ?_
      refine A_icmp_ne (tgt := 58) d_188_42 rfl hf (fun hf => ?_) (fun hf => ?_)
      · refine A_iinc d_188_58 ic_1 rfl ml_188 rfl rfl ?_
        refine P_goto (tgt := 6) d_188_61 rfl ?_
        refine P_fgt [true, true, true, true, true, true, false] ?_
        exact hrec _ _ _ hW  hf
      · refine P_aload_n d_188_45 rfl ?_
        refine P_aload_n d_188_46 rfl ?_
        refine P_iload d_188_47 rfl ?_
        refine A_V2 d_188_49 vk_188_50 ml_189 rfl k_99 hW rfl hf (fun r4 M5 hc hf => t_Sight_isFitting hW hv1 hc (fun hW hb5 => ?_))
        refine A_if_eq (tgt := 58) d_188_52 rfl hf (fun hf => ?_) (fun hf => ?_)
        · refine A_iinc d_188_58 ic_1 rfl ml_188 rfl rfl ?_
          refine P_goto (tgt := 6) d_188_61 rfl ?_
          refine P_fgt [true, true, true, true, true, true, false] ?_
          exact hrec _ _ _ hW  hf
        · refine A_iinc d_188_55 ic_1 rfl ml_188 rfl rfl ?_
          refine A_iinc d_188_58 ic_1 rfl ml_188 rfl rfl ?_
          refine P_goto (tgt := 6) d_188_61 rfl ?_
          refine P_fgt [true, true, true, true, true, true, false] ?_
          exact hrec _ _ _ hW  hf
theorem t_Sight_countFitting_l6 {G : GT} {d : Nat} {v1 : Nat} {v2 : Int32} {v3 : Int32} {Q : AM → Option Value → Prop} {yo : Int32} {Mo : AM} (k1 : WT Mo → PW G (d + 1) 188 64 [ux, ux, ux, ux, .int yo, ux, ux] [] Mo 0 0 Q) (hv1 : kd0 v1 = 5) : ∀ (z : Nat) (v4 : Int32) (v5 : Int32) (M : AM), WT M → f_Sight_countFitting_l6 v1 v2 v3 z v4 v5 M = some (yo, Mo) → PW G (d + 1) 188 6 [.ref 99, .ref v1, .int v2, .int v3, .int v4, .int v5, ux] [] M 0 0 Q := by
  intro z
  induction z with
  | zero => intro v4 v5 M hW hf; cases hf
  | succ z ih => intro v4 v5 M hW hf; exact t_Sight_countFitting_b6 (fun v4 v5 M hW hf => ih v4 v5 M hW hf) k1 hW hv1  hf
def f_Sight_countFitting (a1 : Nat) (a2 : Int32) (a3 : Int32) (M : AM) : Option (Int32 × AM) :=
  bnd (f_Sight_countFitting_l6 a1 a2 a3 fu 0 0 M) (fun y1 M2 => some (y1, M2))
set_option maxRecDepth 20000 in
theorem t_Sight_countFitting {G : GT} {d : Nat} {a1 : Nat} {a2 : Int32} {a3 : Int32} {M : AM} {Q : AM → Option Value → Prop} {r : Int32} {M' : AM} (hW : WT M) (ha1 : kd0 a1 = 5) (hf : f_Sight_countFitting a1 a2 a3 M = some (r, M')) (k : WT M' → Q M' (some (.int r)))  : Cal G (d + 1) 188 [.ref 99, .ref a1, .int a2, .int a3] M Q := by
  refine A_enter ml_188 rfl ?_
  refine A_iconst d_188_0 ic_0 ?_
  refine A_istore d_188_1 ml_188 rfl rfl ?_
  refine A_iconst d_188_3 ic_0 ?_
  refine A_istore d_188_4 ml_188 rfl rfl ?_
  obtain ⟨y1, M2, hl, hf⟩ := bnd_some hf
  refine t_Sight_countFitting_l6 (fun hW => ?_) ha1 fu _ _ _ hW  hl
  refine P_iload d_188_64 rfl ?_
  exact A_iret d_188_66 mr_188 hW hf k
def f_C_fits (a1 : Int32) (M : AM) : Option (Int32 × AM) :=
  bnd (f_Sight_recall a1 M) (fun r1 M2 => ckK (gR M2 0 3) 5 (bnd (f_Sight_countFitting (gR M2 0 3) 0 0 M2) (fun r4 M5 => some (r4, M5))))
set_option maxRecDepth 20000 in
theorem t_C_fits {G : GT} {d : Nat} {a1 : Int32} {M : AM} {Q : AM → Option Value → Prop} {r : Int32} {M' : AM} (hW : WT M)  (hf : f_C_fits a1 M = some (r, M')) (k : WT M' → Q M' (some (.int r)))  : Cal G (d + 2) 186 [.ref 0, .int a1] M Q := by
  refine A_enter ml_186 rfl ?_
  refine P_aload_n d_186_0 rfl ?_
  refine A_gF d_186_1 cn_186 fk_CordLoft_81 ft_12_11 k_0 hW ?_
  refine P_iload_n d_186_4 rfl ?_
  refine A_V1 d_186_5 vk_186_322 ml_187 rfl k_99 hW rfl hf (fun r1 M2 hc hf => t_Sight_recall hW  hc (fun hW => ?_))
  refine P_aload_n d_186_8 rfl ?_
  refine A_gF d_186_9 cn_186 fk_CordLoft_81 ft_12_11 k_0 hW ?_
  refine P_aload_n d_186_12 rfl ?_
  refine A_gM d_186_13 cn_186 fk_CordLoft_35 k_0 hW hf (fun hk3 hf => ?_)
  refine A_iconst d_186_16 ic_0 ?_
  refine A_iconst d_186_17 ic_0 ?_
  refine A_V3 d_186_18 vk_186_325 ml_188 rfl k_99 hW rfl hf (fun r4 M5 hc hf => t_Sight_countFitting hW hk3 hc (fun hW => ?_))
  exact A_iret d_186_21 mr_186 hW hf k
def f_Sight_firstFitting_b2 (rec : Int32 → AM → Option ((Unit × AM) ⊕ (Int32 × AM))) (v1 : Nat) (v2 : Int32) (M : AM) : Option ((Unit × AM) ⊕ (Int32 × AM)) :=
  bnd (f_Plan_allCords v1 M) (fun r1 M2 => if r1 < v2 then some (.inl ((), M2)) else bnd (f_Sight_isFitting v1 v2 M2) (fun r3 M4 => if r3 = 0 then rec (v2 + 1) M4 else some (.inr (v2, M4))))
def f_Sight_firstFitting_l2 (v1 : Nat) : Nat → Int32 → AM → Option ((Unit × AM) ⊕ (Int32 × AM))
  | 0, _, _ => none
  | n + 1, v2, M => f_Sight_firstFitting_b2 (f_Sight_firstFitting_l2 v1 n) v1 v2 M
set_option maxRecDepth 20000 in
theorem t_Sight_firstFitting_b2 {G : GT} {d : Nat} {v1 : Nat} {v2 : Int32} {M : AM} {Q : AM → Option Value → Prop} {o : (Unit × AM) ⊕ (Int32 × AM)} {rec : Int32 → AM → Option ((Unit × AM) ⊕ (Int32 × AM))} (hrec : ∀ (v2 : Int32) (M : AM), WT M → rec v2 M = some o → PW G (d + 1) 191 2 [.ref 99, .ref v1, .int v2] [] M 0 0 Q) (k1 : ∀ (yo : Unit) (Mo : AM), o = .inl (yo, Mo) → WT Mo → PW G (d + 1) 191 27 [ux, ux, ux] [] Mo 0 0 Q) (k2 : ∀ (r : Int32) (M' : AM), o = .inr (r, M') → WT M' → Q M' (some (.int r))) (hW : WT M) (hv1 : kd0 v1 = 5)  (hf : f_Sight_firstFitting_b2 rec v1 v2 M = some o) : PW G (d + 1) 191 2 [.ref 99, .ref v1, .int v2] [] M 0 0 Q := by
  refine P_iload_n d_191_2 rfl ?_
  refine P_aload_n d_191_3 rfl ?_
  refine A_V0 d_191_4 vk_191_46 ml_117 rfl hv1 hW rfl hf (fun r1 M2 hc hf => t_Plan_allCords hW hv1 hc (fun hW => ?_))
  refine A_icmp_gt (tgt := 27) d_191_7 rfl hf (fun hf => ?_) (fun hf => ?_)
  · refine P_fgt [false, false, false] ?_
    cases hf
    exact k1 _ _ rfl hW 
  · refine P_aload_n d_191_10 rfl ?_
    refine P_aload_n d_191_11 rfl ?_
    refine P_iload_n d_191_12 rfl ?_
    refine A_V2 d_191_13 vk_191_50 ml_189 rfl k_99 hW rfl hf (fun r3 M4 hc hf => t_Sight_isFitting hW hv1 hc (fun hW hb4 => ?_))
    refine A_if_eq (tgt := 21) d_191_16 rfl hf (fun hf => ?_) (fun hf => ?_)
    · refine A_iinc d_191_21 ic_1 rfl ml_191 rfl rfl ?_
      refine P_goto (tgt := 2) d_191_24 rfl ?_
      exact hrec _ _ hW  hf
    · refine P_iload_n d_191_19 rfl ?_
      cases hf
      exact A_iret d_191_20 mr_191 hW rfl (fun hW => k2 _ _ rfl hW)
theorem t_Sight_firstFitting_l2 {G : GT} {d : Nat} {v1 : Nat} {Q : AM → Option Value → Prop} {o : (Unit × AM) ⊕ (Int32 × AM)} (k1 : ∀ (yo : Unit) (Mo : AM), o = .inl (yo, Mo) → WT Mo → PW G (d + 1) 191 27 [ux, ux, ux] [] Mo 0 0 Q) (k2 : ∀ (r : Int32) (M' : AM), o = .inr (r, M') → WT M' → Q M' (some (.int r))) (hv1 : kd0 v1 = 5) : ∀ (z : Nat) (v2 : Int32) (M : AM), WT M → f_Sight_firstFitting_l2 v1 z v2 M = some o → PW G (d + 1) 191 2 [.ref 99, .ref v1, .int v2] [] M 0 0 Q := by
  intro z
  induction z with
  | zero => intro v2 M hW hf; cases hf
  | succ z ih => intro v2 M hW hf; exact t_Sight_firstFitting_b2 (fun v2 M hW hf => ih v2 M hW hf) k1 k2 hW hv1  hf
def f_Sight_firstFitting (a1 : Nat) (M : AM) : Option (Int32 × AM) :=
  bn2 (f_Sight_firstFitting_l2 a1 fu 0 M) (fun y1 M2 => some ((-1), M2))
set_option maxRecDepth 20000 in
theorem t_Sight_firstFitting {G : GT} {d : Nat} {a1 : Nat} {M : AM} {Q : AM → Option Value → Prop} {r : Int32} {M' : AM} (hW : WT M) (ha1 : kd0 a1 = 5) (hf : f_Sight_firstFitting a1 M = some (r, M')) (k : WT M' → Q M' (some (.int r)))  : Cal G (d + 1) 191 [.ref 99, .ref a1] M Q := by
  refine A_enter ml_191 rfl ?_
  refine A_iconst d_191_0 ic_0 ?_
  refine A_istore_n d_191_1 ml_191 rfl rfl ?_
  obtain ⟨o, hl, hf⟩ := bn2_some hf
  refine t_Sight_firstFitting_l2 (o := o) (fun y1 M2 e hW => ?_) (fun r1 Mr e hW => ?_) ha1 fu _ _ hW  hl
  · subst e
    change _ = some (r, M') at hf
    refine A_iconst d_191_27 ic_m1 ?_
    exact A_iret d_191_28 mr_191 hW hf k
  · subst e; cases hf; exact k hW
def f_C_fit (a1 : Int32) (M : AM) : Option (Int32 × AM) :=
  bnd (f_Sight_recall a1 M) (fun r1 M2 => ckK (gR M2 0 3) 5 (bnd (f_Sight_firstFitting (gR M2 0 3) M2) (fun r4 M5 => some (r4, M5))))
set_option maxRecDepth 20000 in
theorem t_C_fit {G : GT} {d : Nat} {a1 : Int32} {M : AM} {Q : AM → Option Value → Prop} {r : Int32} {M' : AM} (hW : WT M)  (hf : f_C_fit a1 M = some (r, M')) (k : WT M' → Q M' (some (.int r)))  : Cal G (d + 2) 190 [.ref 0, .int a1] M Q := by
  refine A_enter ml_190 rfl ?_
  refine P_aload_n d_190_0 rfl ?_
  refine A_gF d_190_1 cn_190 fk_CordLoft_81 ft_12_11 k_0 hW ?_
  refine P_iload_n d_190_4 rfl ?_
  refine A_V1 d_190_5 vk_190_322 ml_187 rfl k_99 hW rfl hf (fun r1 M2 hc hf => t_Sight_recall hW  hc (fun hW => ?_))
  refine P_aload_n d_190_8 rfl ?_
  refine A_gF d_190_9 cn_190 fk_CordLoft_81 ft_12_11 k_0 hW ?_
  refine P_aload_n d_190_12 rfl ?_
  refine A_gM d_190_13 cn_190 fk_CordLoft_35 k_0 hW hf (fun hk3 hf => ?_)
  refine A_V1 d_190_16 vk_190_329 ml_191 rfl k_99 hW rfl hf (fun r4 M5 hc hf => t_Sight_firstFitting hW hk3 hc (fun hW => ?_))
  exact A_iret d_190_19 mr_190 hW hf k
def f_Sight_certainty (a1 : Nat) (a2 : Int32) (M : AM) : Option (Int32 × AM) :=
  bnd (f_Sight_countFitting a1 0 0 M) (fun r1 M2 => if r1 = 0 then some ((-1), M2) else bnd (f_Sight_countFitting a1 ((1 : Int32) <<< (a2 &&& 31)) 0 M2) (fun r3 M4 => if r3 = r1 then some (1, M4) else if r3 = 0 then some (0, M4) else some ((-2), M4)))
set_option maxRecDepth 20000 in
theorem t_Sight_certainty {G : GT} {d : Nat} {a1 : Nat} {a2 : Int32} {M : AM} {Q : AM → Option Value → Prop} {r : Int32} {M' : AM} (hW : WT M) (ha1 : kd0 a1 = 5) (hf : f_Sight_certainty a1 a2 M = some (r, M')) (k : WT M' → Q M' (some (.int r)))  : Cal G (d + 2) 193 [.ref 99, .ref a1, .int a2] M Q := by
  refine A_enter ml_193 rfl ?_
  refine P_aload_n d_193_0 rfl ?_
  refine P_aload_n d_193_1 rfl ?_
  refine A_iconst d_193_2 ic_0 ?_
  refine A_iconst d_193_3 ic_0 ?_
  refine A_V3 d_193_4 vk_193_54 ml_188 rfl k_99 hW rfl hf (fun r1 M2 hc hf => t_Sight_countFitting hW ha1 hc (fun hW => ?_))
  refine A_istore_n d_193_7 ml_193 rfl rfl ?_
  refine P_iload_n d_193_8 rfl ?_
  refine A_if_ne (tgt := 14) d_193_9 rfl hf (fun hf => ?_) (fun hf => ?_)
  · refine P_aload_n d_193_14 rfl ?_
    refine P_aload_n d_193_15 rfl ?_
    refine A_iconst d_193_16 ic_1 ?_
    refine P_iload_n d_193_17 rfl ?_
    refine P_ishl d_193_18 ?_
    refine A_iconst d_193_19 ic_0 ?_
    refine A_V3 d_193_20 vk_193_54 ml_188 rfl k_99 hW rfl hf (fun r3 M4 hc hf => t_Sight_countFitting hW ha1 hc (fun hW => ?_))
    refine A_istore d_193_23 ml_193 rfl rfl ?_
    refine P_iload d_193_25 rfl ?_
    refine P_iload_n d_193_27 rfl ?_
    refine A_icmp_ne (tgt := 33) d_193_28 rfl hf (fun hf => ?_) (fun hf => ?_)
    · refine P_iload d_193_33 rfl ?_
      refine A_if_ne (tgt := 42) d_193_35 rfl hf (fun hf => ?_) (fun hf => ?_)
      · refine P_bipush d_193_42 bi_m2 ?_
        exact A_iret d_193_44 mr_193 hW hf k
      · refine A_iconst d_193_38 ic_0 ?_
        refine P_goto (tgt := 44) d_193_39 rfl ?_
        exact A_iret d_193_44 mr_193 hW hf k
    · refine A_iconst d_193_31 ic_1 ?_
      exact A_iret d_193_32 mr_193 hW hf k
  · refine A_iconst d_193_12 ic_m1 ?_
    exact A_iret d_193_13 mr_193 hW hf k
def f_C_sure (a1 : Int32) (a2 : Int32) (M : AM) : Option (Int32 × AM) :=
  ckK (gR M 0 3) 5 (bnd (f_Plan_hasCord (gR M 0 3) a1 M) (fun r2 M3 => if r2 = 0 then some ((-1), M3) else bnd (f_Sight_recall a2 M3) (fun r4 M5 => ckK (gR M5 0 3) 5 (bnd (f_Sight_certainty (gR M5 0 3) a1 M5) (fun r7 M8 => some (r7, M8))))))
set_option maxRecDepth 20000 in
theorem t_C_sure {G : GT} {d : Nat} {a1 : Int32} {a2 : Int32} {M : AM} {Q : AM → Option Value → Prop} {r : Int32} {M' : AM} (hW : WT M)  (hf : f_C_sure a1 a2 M = some (r, M')) (k : WT M' → Q M' (some (.int r)))  : Cal G (d + 3) 192 [.ref 0, .int a1, .int a2] M Q := by
  refine A_enter ml_192 rfl ?_
  refine P_aload_n d_192_0 rfl ?_
  refine A_gM d_192_1 cn_192 fk_CordLoft_35 k_0 hW hf (fun hk1 hf => ?_)
  refine P_iload_n d_192_4 rfl ?_
  refine A_V1 d_192_5 vk_192_152 ml_88 rfl hk1 hW rfl hf (fun r2 M3 hc hf => t_Plan_hasCord hW hk1 hc (fun hW hb3 => ?_))
  refine A_if_ne (tgt := 13) d_192_8 rfl hf (fun hf => ?_) (fun hf => ?_)
  · refine P_aload_n d_192_13 rfl ?_
    refine A_gF d_192_14 cn_192 fk_CordLoft_81 ft_12_11 k_0 hW ?_
    refine P_iload_n d_192_17 rfl ?_
    refine A_V1 d_192_18 vk_192_322 ml_187 rfl k_99 hW rfl hf (fun r4 M5 hc hf => t_Sight_recall hW  hc (fun hW => ?_))
    refine P_aload_n d_192_21 rfl ?_
    refine A_gF d_192_22 cn_192 fk_CordLoft_81 ft_12_11 k_0 hW ?_
    refine P_aload_n d_192_25 rfl ?_
    refine A_gM d_192_26 cn_192 fk_CordLoft_35 k_0 hW hf (fun hk6 hf => ?_)
    refine P_iload_n d_192_29 rfl ?_
    refine A_V2 d_192_30 vk_192_332 ml_193 rfl k_99 hW rfl hf (fun r7 M8 hc hf => t_Sight_certainty hW hk6 hc (fun hW => ?_))
    exact A_iret d_192_33 mr_192 hW hf k
  · refine A_iconst d_192_11 ic_m1 ?_
    exact A_iret d_192_12 mr_192 hW hf k
def f_Sight_bestQuestion_j67 (rec : Int32 → Int32 → AM → Option (Int32 × AM)) (v1 : Nat) (v2 : Int32) (v4 : Int32) (v6 : Int32) (M : AM) : Option (Int32 × AM) :=
  wI M 99 8 v6 (fun M1 => rec v4 (v4 + 1) M1)
set_option maxRecDepth 20000 in
theorem t_Sight_bestQuestion_j67 {G : GT} {d : Nat} {v1 : Nat} {v2 : Int32} {v4 : Int32} {v6 : Int32} {M : AM} {Q : AM → Option Value → Prop} {yo : Int32} {Mo : AM} {rec : Int32 → Int32 → AM → Option (Int32 × AM)} (hrec : ∀ (v3 : Int32) (v4 : Int32) (M : AM), WT M → rec v3 v4 M = some (yo, Mo) → PW G (d + 2) 195 18 [.ref 99, .ref v1, .int v2, .int v3, .int v4, ux, ux] [] M 0 0 Q) (k1 : WT Mo → PW G (d + 2) 195 82 [ux, ux, ux, .int yo, ux, ux, ux] [] Mo 0 0 Q) (hW : WT M) (hv1 : kd0 v1 = 5) (hf : f_Sight_bestQuestion_j67 rec v1 v2 v4 v6 M = some (yo, Mo)) : PW G (d + 2) 195 67 [.ref 99, .ref v1, .int v2, ux, .int v4, ux, .int v6] [] M 0 0 Q := by
  refine P_iload d_195_67 rfl ?_
  refine A_istore_n d_195_69 ml_195 rfl rfl ?_
  refine P_aload_n d_195_70 rfl ?_
  refine P_iload d_195_71 rfl ?_
  refine A_pI d_195_73 cn_195 fp_CordLoft_Sight_58 k_99 hW hf (fun hW hf => ?_)
  refine A_iinc d_195_76 ic_1 rfl ml_195 rfl rfl ?_
  refine P_goto (tgt := 18) d_195_79 rfl ?_
  refine P_fgt [true, true, true, true, true, false, false] ?_
  exact hrec _ _ _ hW  hf
def f_Sight_bestQuestion_b18 (rec : Int32 → Int32 → AM → Option (Int32 × AM)) (v1 : Nat) (v2 : Int32) (v3 : Int32) (v4 : Int32) (M : AM) : Option (Int32 × AM) :=
  if (gI M v1 0) ≤ v4 then some (v3, M) else if v2 ≤ 0 then some (v3, M) else bnd (f_Sight_countFitting v1 0 ((1 : Int32) <<< (v4 &&& 31)) M) (fun r1 M2 => if v3 < 0 then f_Sight_bestQuestion_j67 rec v1 v2 v4 (if r1 < (v2 - r1) then (v2 - r1) else r1) M2 else if (gI M2 99 8) ≤ (if r1 < (v2 - r1) then (v2 - r1) else r1) then rec v3 (v4 + 1) M2 else f_Sight_bestQuestion_j67 rec v1 v2 v4 (if r1 < (v2 - r1) then (v2 - r1) else r1) M2)
def f_Sight_bestQuestion_l18 (v1 : Nat) (v2 : Int32) : Nat → Int32 → Int32 → AM → Option (Int32 × AM)
  | 0, _, _, _ => none
  | n + 1, v3, v4, M => f_Sight_bestQuestion_b18 (f_Sight_bestQuestion_l18 v1 v2 n) v1 v2 v3 v4 M
set_option maxRecDepth 20000 in
theorem t_Sight_bestQuestion_b18 {G : GT} {d : Nat} {v1 : Nat} {v2 : Int32} {v3 : Int32} {v4 : Int32} {M : AM} {Q : AM → Option Value → Prop} {yo : Int32} {Mo : AM} {rec : Int32 → Int32 → AM → Option (Int32 × AM)} (hrec : ∀ (v3 : Int32) (v4 : Int32) (M : AM), WT M → rec v3 v4 M = some (yo, Mo) → PW G (d + 2) 195 18 [.ref 99, .ref v1, .int v2, .int v3, .int v4, ux, ux] [] M 0 0 Q) (k1 : WT Mo → PW G (d + 2) 195 82 [ux, ux, ux, .int yo, ux, ux, ux] [] Mo 0 0 Q) (hW : WT M) (hv1 : kd0 v1 = 5)  (hf : f_Sight_bestQuestion_b18 rec v1 v2 v3 v4 M = some (yo, Mo)) : PW G (d + 2) 195 18 [.ref 99, .ref v1, .int v2, .int v3, .int v4, ux, ux] [] M 0 0 Q := by
  refine P_iload d_195_18 rfl ?_
  refine P_aload_n d_195_20 rfl ?_
  refine A_gI d_195_21 cn_195 fk_CordLoft_Sight_61 hv1 hW ?_
  refine A_icmp_ge (tgt := 82) d_195_24 rfl hf (fun hf => ?_) (fun hf => ?_)
  · refine P_fgt [false, false, false, true, false, false, false] ?_
    cases hf
    exact k1 hW 
  · refine P_iload_n d_195_27 rfl ?_
    refine A_if_le (tgt := 82) d_195_28 rfl hf (fun hf => ?_) (fun hf => ?_)
    · refine P_fgt [false, false, false, true, false, false, false] ?_
      cases hf
      exact k1 hW 
    · refine P_aload_n d_195_31 rfl ?_
      refine P_aload_n d_195_32 rfl ?_
      refine A_iconst d_195_33 ic_0 ?_
      refine A_iconst d_195_34 ic_1 ?_
      refine P_iload d_195_35 rfl ?_
      refine P_ishl d_195_37 ?_
      refine A_V3 d_195_38 vk_195_54 ml_188 rfl k_99 hW rfl hf (fun r1 M2 hc hf => t_Sight_countFitting hW hv1 hc (fun hW => ?_))
      refine A_istore d_195_41 ml_195 rfl rfl ?_
      refine P_iload d_195_43 rfl ?_
      refine P_iload_n d_195_45 rfl ?_
      refine P_iload d_195_46 rfl ?_
      refine P_isub d_195_48 ?_
      refine A_max d_195_49 cn_195 mk_CordLoft_Sight_63 rfl ?_
      refine A_istore d_195_52 ml_195 rfl rfl ?_
      refine P_iload_n d_195_54 rfl ?_
      refine A_if_lt (tgt := 67) d_195_55 rfl hf (fun hf => ?_) (fun hf => ?_)
      · refine P_fgt [true, true, true, false, true, false, true] ?_
        exact t_Sight_bestQuestion_j67 hrec k1 hW hv1 hf
      · refine P_iload d_195_58 rfl ?_
        refine P_aload_n d_195_60 rfl ?_
        refine A_gI d_195_61 cn_195 fk_CordLoft_Sight_58 k_99 hW ?_
        refine A_icmp_ge (tgt := 76) d_195_64 rfl hf (fun hf => ?_) (fun hf => ?_)
        · refine A_iinc d_195_76 ic_1 rfl ml_195 rfl rfl ?_
          refine P_goto (tgt := 18) d_195_79 rfl ?_
          refine P_fgt [true, true, true, true, true, false, false] ?_
          exact hrec _ _ _ hW  hf
        · refine P_fgt [true, true, true, false, true, false, true] ?_
          exact t_Sight_bestQuestion_j67 hrec k1 hW hv1 hf
theorem t_Sight_bestQuestion_l18 {G : GT} {d : Nat} {v1 : Nat} {v2 : Int32} {Q : AM → Option Value → Prop} {yo : Int32} {Mo : AM} (k1 : WT Mo → PW G (d + 2) 195 82 [ux, ux, ux, .int yo, ux, ux, ux] [] Mo 0 0 Q) (hv1 : kd0 v1 = 5) : ∀ (z : Nat) (v3 : Int32) (v4 : Int32) (M : AM), WT M → f_Sight_bestQuestion_l18 v1 v2 z v3 v4 M = some (yo, Mo) → PW G (d + 2) 195 18 [.ref 99, .ref v1, .int v2, .int v3, .int v4, ux, ux] [] M 0 0 Q := by
  intro z
  induction z with
  | zero => intro v3 v4 M hW hf; cases hf
  | succ z ih => intro v3 v4 M hW hf; exact t_Sight_bestQuestion_b18 (fun v3 v4 M hW hf => ih v3 v4 M hW hf) k1 hW hv1  hf
def f_Sight_bestQuestion (a1 : Nat) (M : AM) : Option (Int32 × AM) :=
  bnd (f_Sight_countFitting a1 0 0 M) (fun r1 M2 => wI M2 99 8 r1 (fun M3 => bnd (f_Sight_bestQuestion_l18 a1 r1 fu (-1) 0 M3) (fun y4 M5 => some (y4, M5))))
set_option maxRecDepth 20000 in
theorem t_Sight_bestQuestion {G : GT} {d : Nat} {a1 : Nat} {M : AM} {Q : AM → Option Value → Prop} {r : Int32} {M' : AM} (hW : WT M) (ha1 : kd0 a1 = 5) (hf : f_Sight_bestQuestion a1 M = some (r, M')) (k : WT M' → Q M' (some (.int r)))  : Cal G (d + 2) 195 [.ref 99, .ref a1] M Q := by
  refine A_enter ml_195 rfl ?_
  refine P_aload_n d_195_0 rfl ?_
  refine P_aload_n d_195_1 rfl ?_
  refine A_iconst d_195_2 ic_0 ?_
  refine A_iconst d_195_3 ic_0 ?_
  refine A_V3 d_195_4 vk_195_54 ml_188 rfl k_99 hW rfl hf (fun r1 M2 hc hf => t_Sight_countFitting hW ha1 hc (fun hW => ?_))
  refine A_istore_n d_195_7 ml_195 rfl rfl ?_
  refine A_iconst d_195_8 ic_m1 ?_
  refine A_istore_n d_195_9 ml_195 rfl rfl ?_
  refine P_aload_n d_195_10 rfl ?_
  refine P_iload_n d_195_11 rfl ?_
  refine A_pI d_195_12 cn_195 fp_CordLoft_Sight_58 k_99 hW hf (fun hW hf => ?_)
  refine A_iconst d_195_15 ic_0 ?_
  refine A_istore d_195_16 ml_195 rfl rfl ?_
  obtain ⟨y4, M5, hl, hf⟩ := bnd_some hf
  refine t_Sight_bestQuestion_l18 (fun hW => ?_) ha1 fu _ _ _ hW  hl
  refine P_iload_n d_195_82 rfl ?_
  exact A_iret d_195_83 mr_195 hW hf k
def f_C_ask (a1 : Int32) (a2 : Int32) (M : AM) : Option (Int32 × AM) :=
  bnd (f_Sight_recall a2 M) (fun r1 M2 => ckK (gR M2 0 3) 5 (bnd (f_Sight_bestQuestion (gR M2 0 3) M2) (fun r4 M5 => if 0 ≤ r4 then bnd (f_C_either a1 r4 (gI M5 99 8) M5) (fun r6 M7 => some (r6, M7)) else some ((-1), M5))))
set_option maxRecDepth 20000 in
theorem t_C_ask {G : GT} {d : Nat} {a1 : Int32} {a2 : Int32} {M : AM} {Q : AM → Option Value → Prop} {r : Int32} {M' : AM} (hW : WT M)  (hf : f_C_ask a1 a2 M = some (r, M')) (k : WT M' → Q M' (some (.int r)))  : Cal G (d + 3) 194 [.ref 0, .int a1, .int a2] M Q := by
  refine A_enter ml_194 rfl ?_
  refine P_aload_n d_194_0 rfl ?_
  refine A_gF d_194_1 cn_194 fk_CordLoft_81 ft_12_11 k_0 hW ?_
  refine P_iload_n d_194_4 rfl ?_
  refine A_V1 d_194_5 vk_194_322 ml_187 rfl k_99 hW rfl hf (fun r1 M2 hc hf => t_Sight_recall hW  hc (fun hW => ?_))
  refine P_aload_n d_194_8 rfl ?_
  refine A_gF d_194_9 cn_194 fk_CordLoft_81 ft_12_11 k_0 hW ?_
  refine P_aload_n d_194_12 rfl ?_
  refine A_gM d_194_13 cn_194 fk_CordLoft_35 k_0 hW hf (fun hk3 hf => ?_)
  refine A_V1 d_194_16 vk_194_335 ml_195 rfl k_99 hW rfl hf (fun r4 M5 hc hf => t_Sight_bestQuestion hW hk3 hc (fun hW => ?_))
  refine A_istore_n d_194_19 ml_194 rfl rfl ?_
  refine P_iload_n d_194_20 rfl ?_
  refine A_if_ge (tgt := 28) d_194_21 rfl hf (fun hf => ?_) (fun hf => ?_)
  · refine P_iload_n d_194_28 rfl ?_
    refine P_iload_n d_194_29 rfl ?_
    refine P_aload_n d_194_30 rfl ?_
    refine A_gF d_194_31 cn_194 fk_CordLoft_81 ft_12_11 k_0 hW ?_
    refine A_gI d_194_34 cn_194 fk_CordLoft_338 k_99 hW ?_
    refine A_S3 d_194_37 sk_194_132 ml_84 rfl rfl hf (fun r6 M7 hc hf => t_C_either hW  hc (fun hW => ?_))
    exact A_iret d_194_40 mr_194 hW hf k
  · refine A_iconst d_194_24 ic_m1 ?_
    refine P_goto (tgt := 40) d_194_25 rfl ?_
    exact A_iret d_194_40 mr_194 hW hf k
def f_C_image (a1 : Int32) (M : AM) : Option (Int32 × AM) :=
  if a1 < 0 then some ((-1), M) else if a1 < 3 then bnd (f_Acts_current  M) (fun r1 M2 => rald 3 M2 82 a1 (fun x3 => bnd (f_State_become x3 r1 M2) (fun r5 M6 => wI M6 0 8 ((gI M6 0 8) ||| ((1 : Int32) <<< (a1 &&& 31))) (fun M7 => some (gI M7 r1 0, M7))))) else some ((-1), M)
set_option maxRecDepth 20000 in
theorem t_C_image {G : GT} {d : Nat} {a1 : Int32} {M : AM} {Q : AM → Option Value → Prop} {r : Int32} {M' : AM} (hW : WT M)  (hf : f_C_image a1 M = some (r, M')) (k : WT M' → Q M' (some (.int r)))  : Cal G (d + 1) 196 [.ref 0, .int a1] M Q := by
  refine A_enter ml_196 rfl ?_
  refine P_iload_n d_196_0 rfl ?_
  refine A_if_lt (tgt := 9) d_196_1 rfl hf (fun hf => ?_) (fun hf => ?_)
  · refine A_iconst d_196_9 ic_m1 ?_
    exact A_iret d_196_10 mr_196 hW hf k
  · refine P_iload_n d_196_4 rfl ?_
    refine A_iconst d_196_5 ic_3 ?_
    refine A_icmp_lt (tgt := 11) d_196_6 rfl hf (fun hf => ?_) (fun hf => ?_)
    · refine P_aload_n d_196_11 rfl ?_
      refine A_gF d_196_12 cn_196 fk_CordLoft_45 ft_12_5 k_0 hW ?_
      refine A_V0 d_196_15 vk_196_114 ml_78 rfl k_38 hW rfl hf (fun r1 M2 hc hf => t_Acts_current hW  hc (fun hW hb2 => ?_))
      refine A_astore_n d_196_18 ml_196 rfl rfl ?_
      refine P_aload_n d_196_19 rfl ?_
      refine A_gF d_196_20 cn_196 fk_CordLoft_56 ft_12_7 k_0 hW ?_
      refine P_iload_n d_196_23 rfl ?_
      refine A_aald d_196_24 k_82 l_82 hW hf (fun x3 hk4 hf => ?_)
      refine P_aload_n d_196_25 rfl ?_
      refine A_V1 d_196_26 vk_196_199 ml_95 rfl hk4 hW rfl hf (fun r5 M6 hc hf => t_State_become hW hk4 hb2 hc (fun hW => ?_))
      refine P_aload_n d_196_29 rfl ?_
      refine P_dup d_196_30 rfl ?_
      refine A_gI d_196_31 cn_196 fk_CordLoft_60 k_0 hW ?_
      refine A_iconst d_196_34 ic_1 ?_
      refine P_iload_n d_196_35 rfl ?_
      refine P_ishl d_196_36 ?_
      refine P_ior d_196_37 ?_
      refine A_pI d_196_38 cn_196 fp_CordLoft_60 k_0 hW hf (fun hW hf => ?_)
      refine P_aload_n d_196_41 rfl ?_
      refine A_gI d_196_42 cn_196 fk_CordLoft_140 hb2 hW ?_
      exact A_iret d_196_45 mr_196 hW hf k
    · refine A_iconst d_196_9 ic_m1 ?_
      exact A_iret d_196_10 mr_196 hW hf k
def f_C_back (a1 : Int32) (M : AM) : Option (Int32 × AM) :=
  if a1 < 0 then some ((-1), M) else if 3 ≤ a1 then some ((-1), M) else if (((gI M 0 8) >>> (a1 &&& 31)) &&& 1) = 0 then some ((-1), M) else bnd (f_Acts_current  M) (fun r1 M2 => rald 3 M2 82 a1 (fun x3 => bnd (f_State_become r1 x3 M2) (fun r5 M6 => bnd (f_Acts_forget  M6) (fun r7 M8 => rald 3 M8 82 a1 (fun x9 => some (gI M8 x9 0, M8))))))
set_option maxRecDepth 20000 in
theorem t_C_back {G : GT} {d : Nat} {a1 : Int32} {M : AM} {Q : AM → Option Value → Prop} {r : Int32} {M' : AM} (hW : WT M)  (hf : f_C_back a1 M = some (r, M')) (k : WT M' → Q M' (some (.int r)))  : Cal G (d + 1) 197 [.ref 0, .int a1] M Q := by
  refine A_enter ml_197 rfl ?_
  refine P_iload_n d_197_0 rfl ?_
  refine A_if_lt (tgt := 20) d_197_1 rfl hf (fun hf => ?_) (fun hf => ?_)
  · refine A_iconst d_197_20 ic_m1 ?_
    exact A_iret d_197_21 mr_197 hW hf k
  · refine P_iload_n d_197_4 rfl ?_
    refine A_iconst d_197_5 ic_3 ?_
    refine A_icmp_ge (tgt := 20) d_197_6 rfl hf (fun hf => ?_) (fun hf => ?_)
    · refine A_iconst d_197_20 ic_m1 ?_
      exact A_iret d_197_21 mr_197 hW hf k
    · refine P_aload_n d_197_9 rfl ?_
      refine A_gI d_197_10 cn_197 fk_CordLoft_60 k_0 hW ?_
      refine P_iload_n d_197_13 rfl ?_
      refine P_ishr d_197_14 ?_
      refine A_iconst d_197_15 ic_1 ?_
      refine P_iand d_197_16 ?_
      refine A_if_ne (tgt := 22) d_197_17 rfl hf (fun hf => ?_) (fun hf => ?_)
      · refine P_aload_n d_197_22 rfl ?_
        refine A_gF d_197_23 cn_197 fk_CordLoft_45 ft_12_5 k_0 hW ?_
        refine A_V0 d_197_26 vk_197_114 ml_78 rfl k_38 hW rfl hf (fun r1 M2 hc hf => t_Acts_current hW  hc (fun hW hb2 => ?_))
        refine A_astore_n d_197_29 ml_197 rfl rfl ?_
        refine P_aload_n d_197_30 rfl ?_
        refine P_aload_n d_197_31 rfl ?_
        refine A_gF d_197_32 cn_197 fk_CordLoft_56 ft_12_7 k_0 hW ?_
        refine P_iload_n d_197_35 rfl ?_
        refine A_aald d_197_36 k_82 l_82 hW hf (fun x3 hk4 hf => ?_)
        refine A_V1 d_197_37 vk_197_199 ml_95 rfl hb2 hW rfl hf (fun r5 M6 hc hf => t_State_become hW hb2 hk4 hc (fun hW => ?_))
        refine P_aload_n d_197_40 rfl ?_
        refine A_gF d_197_41 cn_197 fk_CordLoft_45 ft_12_5 k_0 hW ?_
        refine A_V0 d_197_44 vk_197_122 ml_80 rfl k_38 hW rfl hf (fun r7 M8 hc hf => t_Acts_forget hW  hc (fun hW => ?_))
        refine P_aload_n d_197_47 rfl ?_
        refine A_gF d_197_48 cn_197 fk_CordLoft_56 ft_12_7 k_0 hW ?_
        refine P_iload_n d_197_51 rfl ?_
        refine A_aald d_197_52 k_82 l_82 hW hf (fun x9 hk10 hf => ?_)
        refine A_gI d_197_53 cn_197 fk_CordLoft_140 hk10 hW ?_
        exact A_iret d_197_56 mr_197 hW hf k
      · refine A_iconst d_197_20 ic_m1 ?_
        exact A_iret d_197_21 mr_197 hW hf k
def f_C_about (a1 : Int32) (M : AM) : Option (Int32 × AM) :=
  bnd (f_Acts_current  M) (fun r1 M2 => swi a1 [(0, ckK (gR M2 0 3) 5 (some (gI M2 (gR M2 0 3) 0, M2))), (1, ckK (gR M2 0 3) 5 (some (gI M2 (gR M2 0 3) 6, M2))), (2, some (gI M2 r1 1, M2)), (3, some (gI M2 r1 2, M2)), (4, some (gI M2 r1 3, M2)), (5, some (gI M2 r1 4, M2)), (6, some (gI M2 38 1, M2)), (7, some ((gI M2 38 2) - (gI M2 38 1), M2)), (8, some (gI M2 99 6, M2)), (9, some (gI M2 99 7, M2)), (10, some (gI M2 1 1, M2)), (11, ckK (gR M2 0 3) 5 (some (gI M2 ((gR M2 0 3) + 9) 4, M2))), (12, some (gI M2 92 7, M2)), (13, ckK (gR M2 0 3) 5 (some (gI M2 (gR M2 0 3) 14, M2))), (14, ckK (gR M2 0 3) 5 (some (gI M2 (gR M2 0 3) 15, M2)))] (some ((-1), M2)))
set_option maxRecDepth 20000 in
theorem t_C_about {G : GT} {d : Nat} {a1 : Int32} {M : AM} {Q : AM → Option Value → Prop} {r : Int32} {M' : AM} (hW : WT M)  (hf : f_C_about a1 M = some (r, M')) (k : WT M' → Q M' (some (.int r)))  : Cal G (d + 1) 198 [.ref 0, .int a1] M Q := by
  refine A_enter ml_198 rfl ?_
  refine P_aload_n d_198_0 rfl ?_
  refine A_gF d_198_1 cn_198 fk_CordLoft_45 ft_12_5 k_0 hW ?_
  refine A_V0 d_198_4 vk_198_114 ml_78 rfl k_38 hW rfl hf (fun r1 M2 hc hf => t_Acts_current hW  hc (fun hW hb2 => ?_))
  refine A_astore_n d_198_7 ml_198 rfl rfl ?_
  refine P_iload_n d_198_8 rfl ?_
  refine A_tsw [0, 1, 2, 3, 4, 5, 6, 7, 8, 9, 10, 11, 12, 13, 14] [84, 92, 100, 105, 110, 115, 120, 128, 144, 152, 160, 168, 179, 187, 195] 203 d_198_9 rfl (by decide +kernel) hf (fun i A t h1 h2 hf => ?_) (fun hf => ?_)
  · match i, h1, h2 with
    | 0, h1, h2 =>
      have h3 := (Prod.mk.inj (Option.some.inj h1)).2
      have h4 := Option.some.inj h2
      subst h3; subst h4; clear h1 h2
      refine P_aload_n d_198_84 rfl ?_
      refine A_gM d_198_85 cn_198 fk_CordLoft_35 k_0 hW hf (fun hk3 hf => ?_)
      refine A_gI d_198_88 cn_198 fk_CordLoft_129 hk3 hW ?_
      exact A_iret d_198_91 mr_198 hW hf k
    | 1, h1, h2 =>
      have h3 := (Prod.mk.inj (Option.some.inj h1)).2
      have h4 := Option.some.inj h2
      subst h3; subst h4; clear h1 h2
      refine P_aload_n d_198_92 rfl ?_
      refine A_gM d_198_93 cn_198 fk_CordLoft_35 k_0 hW hf (fun hk4 hf => ?_)
      refine A_gI d_198_96 cn_198 fk_CordLoft_231 hk4 hW ?_
      exact A_iret d_198_99 mr_198 hW hf k
    | 2, h1, h2 =>
      have h3 := (Prod.mk.inj (Option.some.inj h1)).2
      have h4 := Option.some.inj h2
      subst h3; subst h4; clear h1 h2
      refine P_aload_n d_198_100 rfl ?_
      refine A_gI d_198_101 cn_198 fk_CordLoft_161 hb2 hW ?_
      exact A_iret d_198_104 mr_198 hW hf k
    | 3, h1, h2 =>
      have h3 := (Prod.mk.inj (Option.some.inj h1)).2
      have h4 := Option.some.inj h2
      subst h3; subst h4; clear h1 h2
      refine P_aload_n d_198_105 rfl ?_
      refine A_gI d_198_106 cn_198 fk_CordLoft_179 hb2 hW ?_
      exact A_iret d_198_109 mr_198 hW hf k
    | 4, h1, h2 =>
      have h3 := (Prod.mk.inj (Option.some.inj h1)).2
      have h4 := Option.some.inj h2
      subst h3; subst h4; clear h1 h2
      refine P_aload_n d_198_110 rfl ?_
      refine A_gI d_198_111 cn_198 fk_CordLoft_185 hb2 hW ?_
      exact A_iret d_198_114 mr_198 hW hf k
    | 5, h1, h2 =>
      have h3 := (Prod.mk.inj (Option.some.inj h1)).2
      have h4 := Option.some.inj h2
      subst h3; subst h4; clear h1 h2
      refine P_aload_n d_198_115 rfl ?_
      refine A_gI d_198_116 cn_198 fk_CordLoft_341 hb2 hW ?_
      exact A_iret d_198_119 mr_198 hW hf k
    | 6, h1, h2 =>
      have h3 := (Prod.mk.inj (Option.some.inj h1)).2
      have h4 := Option.some.inj h2
      subst h3; subst h4; clear h1 h2
      refine P_aload_n d_198_120 rfl ?_
      refine A_gF d_198_121 cn_198 fk_CordLoft_45 ft_12_5 k_0 hW ?_
      refine A_gI d_198_124 cn_198 fk_CordLoft_344 k_38 hW ?_
      exact A_iret d_198_127 mr_198 hW hf k
    | 7, h1, h2 =>
      have h3 := (Prod.mk.inj (Option.some.inj h1)).2
      have h4 := Option.some.inj h2
      subst h3; subst h4; clear h1 h2
      refine P_aload_n d_198_128 rfl ?_
      refine A_gF d_198_129 cn_198 fk_CordLoft_45 ft_12_5 k_0 hW ?_
      refine A_gI d_198_132 cn_198 fk_CordLoft_347 k_38 hW ?_
      refine P_aload_n d_198_135 rfl ?_
      refine A_gF d_198_136 cn_198 fk_CordLoft_45 ft_12_5 k_0 hW ?_
      refine A_gI d_198_139 cn_198 fk_CordLoft_344 k_38 hW ?_
      refine P_isub d_198_142 ?_
      exact A_iret d_198_143 mr_198 hW hf k
    | 8, h1, h2 =>
      have h3 := (Prod.mk.inj (Option.some.inj h1)).2
      have h4 := Option.some.inj h2
      subst h3; subst h4; clear h1 h2
      refine P_aload_n d_198_144 rfl ?_
      refine A_gF d_198_145 cn_198 fk_CordLoft_81 ft_12_11 k_0 hW ?_
      refine A_gI d_198_148 cn_198 fk_CordLoft_350 k_99 hW ?_
      exact A_iret d_198_151 mr_198 hW hf k
    | 9, h1, h2 =>
      have h3 := (Prod.mk.inj (Option.some.inj h1)).2
      have h4 := Option.some.inj h2
      subst h3; subst h4; clear h1 h2
      refine P_aload_n d_198_152 rfl ?_
      refine A_gF d_198_153 cn_198 fk_CordLoft_81 ft_12_11 k_0 hW ?_
      refine A_gI d_198_156 cn_198 fk_CordLoft_353 k_99 hW ?_
      exact A_iret d_198_159 mr_198 hW hf k
    | 10, h1, h2 =>
      have h3 := (Prod.mk.inj (Option.some.inj h1)).2
      have h4 := Option.some.inj h2
      subst h3; subst h4; clear h1 h2
      refine P_aload_n d_198_160 rfl ?_
      refine A_gF d_198_161 cn_198 fk_CordLoft_10 ft_12_0 k_0 hW ?_
      refine A_gI d_198_164 cn_198 fk_CordLoft_95 k_1 hW ?_
      exact A_iret d_198_167 mr_198 hW hf k
    | 11, h1, h2 =>
      have h3 := (Prod.mk.inj (Option.some.inj h1)).2
      have h4 := Option.some.inj h2
      subst h3; subst h4; clear h1 h2
      refine P_aload_n d_198_168 rfl ?_
      refine A_gM d_198_169 cn_198 fk_CordLoft_35 k_0 hW hf (fun hk5 hf => ?_)
      refine A_gFr d_198_172 cn_198 fk_CordLoft_356 ft_5_11 hk5 hW ?_
      refine A_gI d_198_175 cn_198 fk_CordLoft_360 (kr_5_9 hk5) hW ?_
      exact A_iret d_198_178 mr_198 hW hf k
    | 12, h1, h2 =>
      have h3 := (Prod.mk.inj (Option.some.inj h1)).2
      have h4 := Option.some.inj h2
      subst h3; subst h4; clear h1 h2
      refine P_aload_n d_198_179 rfl ?_
      refine A_gF d_198_180 cn_198 fk_CordLoft_74 ft_12_10 k_0 hW ?_
      refine A_gI d_198_183 cn_198 fk_CordLoft_306 k_92 hW ?_
      exact A_iret d_198_186 mr_198 hW hf k
    | 13, h1, h2 =>
      have h3 := (Prod.mk.inj (Option.some.inj h1)).2
      have h4 := Option.some.inj h2
      subst h3; subst h4; clear h1 h2
      refine P_aload_n d_198_187 rfl ?_
      refine A_gM d_198_188 cn_198 fk_CordLoft_35 k_0 hW hf (fun hk6 hf => ?_)
      refine A_gI d_198_191 cn_198 fk_CordLoft_173 hk6 hW ?_
      exact A_iret d_198_194 mr_198 hW hf k
    | 14, h1, h2 =>
      have h3 := (Prod.mk.inj (Option.some.inj h1)).2
      have h4 := Option.some.inj h2
      subst h3; subst h4; clear h1 h2
      refine P_aload_n d_198_195 rfl ?_
      refine A_gM d_198_196 cn_198 fk_CordLoft_35 k_0 hW hf (fun hk7 hf => ?_)
      refine A_gI d_198_199 cn_198 fk_CordLoft_300 hk7 hW ?_
      exact A_iret d_198_202 mr_198 hW hf k
    | i + 15, h1, h2 => exact absurd h2 (by simp)
  · refine A_iconst d_198_203 ic_m1 ?_
    exact A_iret d_198_204 mr_198 hW hf k
end
