noncomputable section
def f_Tape_put_b3 (rec : Int32 → AM → Option (Unit × AM)) (v1 : Int32) (v2 : Int32) (M : AM) : Option (Unit × AM) :=
  if v2 < 0 then some ((), M) else if 1600 ≤ (gI M 1 1) then some ((), M) else ast 1600 M 2 (gI M 1 1) ((v1 >>> (v2 &&& 31)).toInt8.toInt32).toInt8.toInt32 (fun M1 => wI M1 1 1 ((gI M1 1 1) + 1) (fun M2 => rec (v2 + (-8)) M2))
def f_Tape_put_l3 (v1 : Int32) : Nat → Int32 → AM → Option (Unit × AM)
  | 0, _, _ => none
  | n + 1, v2, M => f_Tape_put_b3 (f_Tape_put_l3 v1 n) v1 v2 M
set_option maxRecDepth 20000 in
theorem t_Tape_put_b3 {G : GT} {d : Nat} {v1 : Int32} {v2 : Int32} {M : AM} {Q : AM → Option Value → Prop} {yo : Unit} {Mo : AM} {rec : Int32 → AM → Option (Unit × AM)} (hrec : ∀ (v2 : Int32) (M : AM), WT M → rec v2 M = some (yo, Mo) → PW G d 14 3 [.ref 1, .int v1, .int v2] [] M 0 0 Q) (k1 : WT Mo → PW G d 14 46 [ux, ux, ux] [] Mo 0 0 Q) (hW : WT M)   (hf : f_Tape_put_b3 rec v1 v2 M = some (yo, Mo)) : PW G d 14 3 [.ref 1, .int v1, .int v2] [] M 0 0 Q := by
  refine P_iload_n d_14_3 rfl ?_
  refine A_if_lt (tgt := 46) d_14_4 rfl hf (fun hf => ?_) (fun hf => ?_)
  · refine P_fgt [false, false, false] ?_
    cases hf
    exact k1 hW 
  · refine P_aload_n d_14_7 rfl ?_
    refine A_gI d_14_8 cn_14 fk_CordLoft_Tape_15 k_1 hW ?_
    refine P_sipush d_14_11 si_1600 ?_
    refine A_icmp_ge (tgt := 46) d_14_14 rfl hf (fun hf => ?_) (fun hf => ?_)
    · refine P_fgt [false, false, false] ?_
      cases hf
      exact k1 hW 
    · refine P_aload_n d_14_17 rfl ?_
      refine A_gF d_14_18 cn_14 fk_CordLoft_Tape_11 ft_10_0 k_1 hW ?_
      refine P_aload_n d_14_21 rfl ?_
      refine A_gI d_14_22 cn_14 fk_CordLoft_Tape_15 k_1 hW ?_
      refine P_iload_n d_14_25 rfl ?_
      refine P_iload_n d_14_26 rfl ?_
      refine P_ishr d_14_27 ?_
      refine P_i2b d_14_28 ?_
      refine A_bast d_14_29 k_2 l_2 hW hf (fun hW hf => ?_)
      refine P_aload_n d_14_30 rfl ?_
      refine P_dup d_14_31 rfl ?_
      refine A_gI d_14_32 cn_14 fk_CordLoft_Tape_15 k_1 hW ?_
      refine A_iconst d_14_35 ic_1 ?_
      refine P_iadd d_14_36 ?_
      refine A_pI d_14_37 cn_14 fp_CordLoft_Tape_15 k_1 hW hf (fun hW hf => ?_)
      refine A_iinc d_14_40 ic_m8 rfl ml_14 rfl rfl ?_
      refine P_goto (tgt := 3) d_14_43 rfl ?_
      exact hrec _ _ hW  hf
theorem t_Tape_put_l3 {G : GT} {d : Nat} {v1 : Int32} {Q : AM → Option Value → Prop} {yo : Unit} {Mo : AM} (k1 : WT Mo → PW G d 14 46 [ux, ux, ux] [] Mo 0 0 Q)  : ∀ (z : Nat) (v2 : Int32) (M : AM), WT M → f_Tape_put_l3 v1 z v2 M = some (yo, Mo) → PW G d 14 3 [.ref 1, .int v1, .int v2] [] M 0 0 Q := by
  intro z
  induction z with
  | zero => intro v2 M hW hf; cases hf
  | succ z ih => intro v2 M hW hf; exact t_Tape_put_b3 (fun v2 M hW hf => ih v2 M hW hf) k1 hW   hf
def f_Tape_put (a1 : Int32) (M : AM) : Option (Unit × AM) :=
  bnd (f_Tape_put_l3 a1 fu 24 M) (fun y1 M2 => some ((), M2))
set_option maxRecDepth 20000 in
theorem t_Tape_put {G : GT} {d : Nat} {a1 : Int32} {M : AM} {Q : AM → Option Value → Prop} {r : Unit} {M' : AM} (hW : WT M)  (hf : f_Tape_put a1 M = some (r, M')) (k : WT M' → Q M' none)  : Cal G d 14 [.ref 1, .int a1] M Q := by
  refine A_enter ml_14 rfl ?_
  refine P_bipush d_14_0 bi_24 ?_
  refine A_istore_n d_14_2 ml_14 rfl rfl ?_
  obtain ⟨y1, M2, hl, hf⟩ := bnd_some hf
  refine t_Tape_put_l3 (fun hW => ?_)  fu _ _ hW  hl
  exact A_ret d_14_46 mr_14 hW hf k
def f_C_feed (a1 : Int32) (a2 : Int32) (a3 : Int32) (a4 : Int32) (a5 : Int32) (M : AM) : Option (Int32 × AM) :=
  if (gI M 1 1) ≤ 1580 then bnd (f_Tape_put a1 M) (fun r1 M2 => bnd (f_Tape_put a2 M2) (fun r3 M4 => bnd (f_Tape_put a3 M4) (fun r5 M6 => bnd (f_Tape_put a4 M6) (fun r7 M8 => bnd (f_Tape_put a5 M8) (fun r9 M10 => some (gI M10 1 1, M10)))))) else some ((-1), M)
set_option maxRecDepth 20000 in
theorem t_C_feed {G : GT} {d : Nat} {a1 : Int32} {a2 : Int32} {a3 : Int32} {a4 : Int32} {a5 : Int32} {M : AM} {Q : AM → Option Value → Prop} {r : Int32} {M' : AM} (hW : WT M)  (hf : f_C_feed a1 a2 a3 a4 a5 M = some (r, M')) (k : WT M' → Q M' (some (.int r)))  : Cal G (d + 1) 13 [.ref 0, .int a1, .int a2, .int a3, .int a4, .int a5] M Q := by
  refine A_enter ml_13 rfl ?_
  refine P_aload_n d_13_0 rfl ?_
  refine A_gF d_13_1 cn_13 fk_CordLoft_10 ft_12_0 k_0 hW ?_
  refine A_gI d_13_4 cn_13 fk_CordLoft_95 k_1 hW ?_
  refine P_sipush d_13_7 si_1580 ?_
  refine A_icmp_le (tgt := 15) d_13_10 rfl hf (fun hf => ?_) (fun hf => ?_)
  · refine P_aload_n d_13_15 rfl ?_
    refine A_gF d_13_16 cn_13 fk_CordLoft_10 ft_12_0 k_0 hW ?_
    refine P_iload_n d_13_19 rfl ?_
    refine A_V1 d_13_20 vk_13_98 ml_14 rfl k_1 hW rfl hf (fun r1 M2 hc hf => t_Tape_put hW  hc (fun hW => ?_))
    refine P_aload_n d_13_23 rfl ?_
    refine A_gF d_13_24 cn_13 fk_CordLoft_10 ft_12_0 k_0 hW ?_
    refine P_iload_n d_13_27 rfl ?_
    refine A_V1 d_13_28 vk_13_98 ml_14 rfl k_1 hW rfl hf (fun r3 M4 hc hf => t_Tape_put hW  hc (fun hW => ?_))
    refine P_aload_n d_13_31 rfl ?_
    refine A_gF d_13_32 cn_13 fk_CordLoft_10 ft_12_0 k_0 hW ?_
    refine P_iload_n d_13_35 rfl ?_
    refine A_V1 d_13_36 vk_13_98 ml_14 rfl k_1 hW rfl hf (fun r5 M6 hc hf => t_Tape_put hW  hc (fun hW => ?_))
    refine P_aload_n d_13_39 rfl ?_
    refine A_gF d_13_40 cn_13 fk_CordLoft_10 ft_12_0 k_0 hW ?_
    refine P_iload d_13_43 rfl ?_
    refine A_V1 d_13_45 vk_13_98 ml_14 rfl k_1 hW rfl hf (fun r7 M8 hc hf => t_Tape_put hW  hc (fun hW => ?_))
    refine P_aload_n d_13_48 rfl ?_
    refine A_gF d_13_49 cn_13 fk_CordLoft_10 ft_12_0 k_0 hW ?_
    refine P_iload d_13_52 rfl ?_
    refine A_V1 d_13_54 vk_13_98 ml_14 rfl k_1 hW rfl hf (fun r9 M10 hc hf => t_Tape_put hW  hc (fun hW => ?_))
    refine P_aload_n d_13_57 rfl ?_
    refine A_gF d_13_58 cn_13 fk_CordLoft_10 ft_12_0 k_0 hW ?_
    refine A_gI d_13_61 cn_13 fk_CordLoft_95 k_1 hW ?_
    exact A_iret d_13_64 mr_13 hW hf k
  · refine A_iconst d_13_13 ic_m1 ?_
    exact A_iret d_13_14 mr_13 hW hf k
def f_C_end (a1 : Int32) (M : AM) : Option (Int32 × AM) :=
  if a1 < 0 then some ((-1), M) else if a1 ≤ (gI M 1 1) then wI M 1 1 a1 (fun M1 => some (a1, M1)) else some ((-1), M)
set_option maxRecDepth 20000 in
theorem t_C_end {G : GT} {d : Nat} {a1 : Int32} {M : AM} {Q : AM → Option Value → Prop} {r : Int32} {M' : AM} (hW : WT M)  (hf : f_C_end a1 M = some (r, M')) (k : WT M' → Q M' (some (.int r)))  : Cal G d 15 [.ref 0, .int a1] M Q := by
  refine A_enter ml_15 rfl ?_
  refine P_iload_n d_15_0 rfl ?_
  refine A_if_lt (tgt := 15) d_15_1 rfl hf (fun hf => ?_) (fun hf => ?_)
  · refine A_iconst d_15_15 ic_m1 ?_
    exact A_iret d_15_16 mr_15 hW hf k
  · refine P_iload_n d_15_4 rfl ?_
    refine P_aload_n d_15_5 rfl ?_
    refine A_gF d_15_6 cn_15 fk_CordLoft_10 ft_12_0 k_0 hW ?_
    refine A_gI d_15_9 cn_15 fk_CordLoft_95 k_1 hW ?_
    refine A_icmp_le (tgt := 17) d_15_12 rfl hf (fun hf => ?_) (fun hf => ?_)
    · refine P_aload_n d_15_17 rfl ?_
      refine A_gF d_15_18 cn_15 fk_CordLoft_10 ft_12_0 k_0 hW ?_
      refine P_iload_n d_15_21 rfl ?_
      refine A_pI d_15_22 cn_15 fp_CordLoft_95 k_1 hW hf (fun hW hf => ?_)
      refine P_iload_n d_15_25 rfl ?_
      exact A_iret d_15_26 mr_15 hW hf k
    · refine A_iconst d_15_15 ic_m1 ?_
      exact A_iret d_15_16 mr_15 hW hf k
def f_Tape_at (a1 : Int32) (M : AM) : Option (Int32 × AM) :=
  if a1 < 0 then some ((-1), M) else if (gI M 1 1) ≤ a1 then some ((-1), M) else ald 1600 M 2 a1 (fun x1 => some (x1 &&& 255, M))
set_option maxRecDepth 20000 in
theorem t_Tape_at {G : GT} {d : Nat} {a1 : Int32} {M : AM} {Q : AM → Option Value → Prop} {r : Int32} {M' : AM} (hW : WT M)  (hf : f_Tape_at a1 M = some (r, M')) (k : WT M' → Q M' (some (.int r)))  : Cal G d 19 [.ref 1, .int a1] M Q := by
  refine A_enter ml_19 rfl ?_
  refine P_iload_n d_19_0 rfl ?_
  refine A_if_lt (tgt := 25) d_19_1 rfl hf (fun hf => ?_) (fun hf => ?_)
  · refine A_iconst d_19_25 ic_m1 ?_
    exact A_iret d_19_26 mr_19 hW hf k
  · refine P_iload_n d_19_4 rfl ?_
    refine P_aload_n d_19_5 rfl ?_
    refine A_gI d_19_6 cn_19 fk_CordLoft_Tape_15 k_1 hW ?_
    refine A_icmp_ge (tgt := 25) d_19_9 rfl hf (fun hf => ?_) (fun hf => ?_)
    · refine A_iconst d_19_25 ic_m1 ?_
      exact A_iret d_19_26 mr_19 hW hf k
    · refine P_aload_n d_19_12 rfl ?_
      refine A_gF d_19_13 cn_19 fk_CordLoft_Tape_11 ft_10_0 k_1 hW ?_
      refine P_iload_n d_19_16 rfl ?_
      refine A_bald d_19_17 k_2 l_2 hW hf (fun hf => ?_)
      refine P_sipush d_19_18 si_255 ?_
      refine P_iand d_19_21 ?_
      refine P_goto (tgt := 26) d_19_22 rfl ?_
      exact A_iret d_19_26 mr_19 hW hf k
def f_Tokens_skipBlanks_j35 (rec : Int32 → AM → Option (Unit × AM)) (v2 : Int32) (M : AM) : Option (Unit × AM) :=
  wI M 3 5 ((gI M 3 5) + 1) (fun M1 => rec (v2 + 1) M1)
set_option maxRecDepth 20000 in
theorem t_Tokens_skipBlanks_j35 {G : GT} {d : Nat} {v2 : Int32} {M : AM} {Q : AM → Option Value → Prop} {yo : Unit} {Mo : AM} {rec : Int32 → AM → Option (Unit × AM)} (hrec : ∀ (v2 : Int32) (M : AM), WT M → rec v2 M = some (yo, Mo) → PW G (d + 1) 18 2 [.ref 3, .ref 1, .int v2] [] M 0 0 Q) (k1 : WT Mo → PW G (d + 1) 18 51 [ux, ux, ux] [] Mo 0 0 Q) (hW : WT M)  (hf : f_Tokens_skipBlanks_j35 rec v2 M = some (yo, Mo)) : PW G (d + 1) 18 35 [.ref 3, .ref 1, .int v2] [] M 0 0 Q := by
  refine P_aload_n d_18_35 rfl ?_
  refine P_dup d_18_36 rfl ?_
  refine A_gI d_18_37 cn_18 fk_CordLoft_Tokens_28 k_3 hW ?_
  refine A_iconst d_18_40 ic_1 ?_
  refine P_iadd d_18_41 ?_
  refine A_pI d_18_42 cn_18 fp_CordLoft_Tokens_28 k_3 hW hf (fun hW hf => ?_)
  refine A_iinc d_18_45 ic_1 rfl ml_18 rfl rfl ?_
  refine P_goto (tgt := 2) d_18_48 rfl ?_
  exact hrec _ _ hW  hf
def f_Tokens_skipBlanks_b2 (rec : Int32 → AM → Option (Unit × AM))  (v2 : Int32) (M : AM) : Option (Unit × AM) :=
  if 1600 ≤ v2 then some ((), M) else bnd (f_Tape_at (gI M 3 5) M) (fun r1 M2 => if r1 = 32 then f_Tokens_skipBlanks_j35 rec v2 M2 else bnd (f_Tape_at (gI M2 3 5) M2) (fun r3 M4 => if r3 = 10 then f_Tokens_skipBlanks_j35 rec v2 M4 else some ((), M4)))
def f_Tokens_skipBlanks_l2  : Nat → Int32 → AM → Option (Unit × AM)
  | 0, _, _ => none
  | n + 1, v2, M => f_Tokens_skipBlanks_b2 (f_Tokens_skipBlanks_l2  n)  v2 M
set_option maxRecDepth 20000 in
theorem t_Tokens_skipBlanks_b2 {G : GT} {d : Nat}  {v2 : Int32} {M : AM} {Q : AM → Option Value → Prop} {yo : Unit} {Mo : AM} {rec : Int32 → AM → Option (Unit × AM)} (hrec : ∀ (v2 : Int32) (M : AM), WT M → rec v2 M = some (yo, Mo) → PW G (d + 1) 18 2 [.ref 3, .ref 1, .int v2] [] M 0 0 Q) (k1 : WT Mo → PW G (d + 1) 18 51 [ux, ux, ux] [] Mo 0 0 Q) (hW : WT M)   (hf : f_Tokens_skipBlanks_b2 rec  v2 M = some (yo, Mo)) : PW G (d + 1) 18 2 [.ref 3, .ref 1, .int v2] [] M 0 0 Q := by
  refine P_iload_n d_18_2 rfl ?_
  refine P_sipush d_18_3 si_1600 ?_
  refine A_icmp_ge (tgt := 51) d_18_6 rfl hf (fun hf => ?_) (fun hf => ?_)
  · refine P_fgt [false, false, false] ?_
    cases hf
    exact k1 hW 
  · refine P_aload_n d_18_9 rfl ?_
    refine P_aload_n d_18_10 rfl ?_
    refine A_gI d_18_11 cn_18 fk_CordLoft_Tokens_28 k_3 hW ?_
    refine A_V1 d_18_14 vk_18_55 ml_19 rfl k_1 hW rfl hf (fun r1 M2 hc hf => t_Tape_at hW  hc (fun hW => ?_))
    refine P_bipush d_18_17 bi_32 ?_
    refine A_icmp_eq (tgt := 35) d_18_19 rfl hf (fun hf => ?_) (fun hf => ?_)
    · exact t_Tokens_skipBlanks_j35 hrec k1 hW  hf
    · refine P_aload_n d_18_22 rfl ?_
      refine P_aload_n d_18_23 rfl ?_
      refine A_gI d_18_24 cn_18 fk_CordLoft_Tokens_28 k_3 hW ?_
      refine A_V1 d_18_27 vk_18_55 ml_19 rfl k_1 hW rfl hf (fun r3 M4 hc hf => t_Tape_at hW  hc (fun hW => ?_))
      refine P_bipush d_18_30 bi_10 ?_
      refine A_icmp_ne (tgt := 51) d_18_32 rfl hf (fun hf => ?_) (fun hf => ?_)
      · refine P_fgt [false, false, false] ?_
        cases hf
        exact k1 hW 
      · exact t_Tokens_skipBlanks_j35 hrec k1 hW  hf
theorem t_Tokens_skipBlanks_l2 {G : GT} {d : Nat}  {Q : AM → Option Value → Prop} {yo : Unit} {Mo : AM} (k1 : WT Mo → PW G (d + 1) 18 51 [ux, ux, ux] [] Mo 0 0 Q)  : ∀ (z : Nat) (v2 : Int32) (M : AM), WT M → f_Tokens_skipBlanks_l2  z v2 M = some (yo, Mo) → PW G (d + 1) 18 2 [.ref 3, .ref 1, .int v2] [] M 0 0 Q := by
  intro z
  induction z with
  | zero => intro v2 M hW hf; cases hf
  | succ z ih => intro v2 M hW hf; exact t_Tokens_skipBlanks_b2 (fun v2 M hW hf => ih v2 M hW hf) k1 hW   hf
def f_Tokens_skipBlanks  (M : AM) : Option (Unit × AM) :=
  bnd (f_Tokens_skipBlanks_l2  fu 0 M) (fun y1 M2 => some ((), M2))
set_option maxRecDepth 20000 in
theorem t_Tokens_skipBlanks {G : GT} {d : Nat}  {M : AM} {Q : AM → Option Value → Prop} {r : Unit} {M' : AM} (hW : WT M)  (hf : f_Tokens_skipBlanks  M = some (r, M')) (k : WT M' → Q M' none)  : Cal G (d + 1) 18 [.ref 3, .ref 1] M Q := by
  refine A_enter ml_18 rfl ?_
  refine A_iconst d_18_0 ic_0 ?_
  refine A_istore_n d_18_1 ml_18 rfl rfl ?_
  obtain ⟨y1, M2, hl, hf⟩ := bnd_some hf
  refine t_Tokens_skipBlanks_l2 (fun hW => ?_)  fu _ _ hW  hl
  exact A_ret d_18_51 mr_18 hW hf k
def f_Tokens_isLetter (a0 : Int32) (M : AM) : Option (Int32 × AM) :=
  if a0 < 97 then some (0, M) else if 122 < a0 then some (0, M) else some (1, M)
set_option maxRecDepth 20000 in
theorem t_Tokens_isLetter {G : GT} {d : Nat} {a0 : Int32} {M : AM} {Q : AM → Option Value → Prop} {r : Int32} {M' : AM} (hW : WT M)  (hf : f_Tokens_isLetter a0 M = some (r, M')) (k : WT M' → (r = 0 ∨ r = 1) → Q M' (some (.int r)))  : Cal G d 21 [.int a0] M Q := by
  refine A_enter ml_21 rfl ?_
  refine P_iload_n d_21_0 rfl ?_
  refine P_bipush d_21_1 bi_97 ?_
  refine A_icmp_lt (tgt := 16) d_21_3 rfl hf (fun hf => ?_) (fun hf => ?_)
  · refine A_iconst d_21_16 ic_0 ?_
    exact A_zret d_21_17 mr_21 hW (Or.inl rfl) hf k
  · refine P_iload_n d_21_6 rfl ?_
    refine P_bipush d_21_7 bi_122 ?_
    refine A_icmp_gt (tgt := 16) d_21_9 rfl hf (fun hf => ?_) (fun hf => ?_)
    · refine A_iconst d_21_16 ic_0 ?_
      exact A_zret d_21_17 mr_21 hW (Or.inl rfl) hf k
    · refine A_iconst d_21_12 ic_1 ?_
      refine P_goto (tgt := 17) d_21_13 rfl ?_
      exact A_zret d_21_17 mr_21 hW (Or.inr rfl) hf k
def f_Str_isLatin1 (a0 : Nat) (M : AM) : Option (Int32 × AM) :=
  if (1 : Int32) = 0 then some (0, M) else if (0 : Int32) = 0 then some (1, M) else some (0, M)
set_option maxRecDepth 20000 in
theorem t_Str_isLatin1 {G : GT} {d : Nat} {a0 : Nat} {M : AM} {Q : AM → Option Value → Prop} {r : Int32} {M' : AM} (hW : WT M) (ha0 : a0 < 2) (hf : f_Str_isLatin1 a0 M = some (r, M')) (k : WT M' → (r = 0 ∨ r = 1) → Q M' (some (.int r)))  : Cal G d 25 [.ref (1001 + a0)] M Q := by
  refine A_enter ml_25 rfl ?_
  refine P_getCompact d_25_0 (by rw [cn_25]; exact fm_java_lang_String_38) ?_
  refine A_if_eq (tgt := 17) d_25_3 rfl hf (fun hf => ?_) (fun hf => ?_)
  · refine A_iconst d_25_17 ic_0 ?_
    exact A_zret d_25_18 mr_25 hW (Or.inl rfl) hf k
  · refine P_aload_n d_25_6 rfl ?_
    refine P_getCoder d_25_7 ha0 (by rw [cn_25]; exact fm_java_lang_String_15) ?_
    refine A_if_ne (tgt := 17) d_25_10 rfl hf (fun hf => ?_) (fun hf => ?_)
    · refine A_iconst d_25_17 ic_0 ?_
      exact A_zret d_25_18 mr_25 hW (Or.inl rfl) hf k
    · refine A_iconst d_25_13 ic_1 ?_
      refine P_goto (tgt := 18) d_25_14 rfl ?_
      exact A_zret d_25_18 mr_25 hW (Or.inr rfl) hf k
def f_Pre_checkIndex (a0 : Int32) (a1 : Int32) (M : AM) : Option (Int32 × AM) :=
  if a0 < 0 then none else if a0 < a1 then some (a0, M) else none
set_option maxRecDepth 20000 in
theorem t_Pre_checkIndex {G : GT} {d : Nat} {a0 : Int32} {a1 : Int32} {M : AM} {Q : AM → Option Value → Prop} {r : Int32} {M' : AM} (hW : WT M)  (hf : f_Pre_checkIndex a0 a1 M = some (r, M')) (k : WT M' → Q M' (some (.int r)))  : Cal G d 28 [.int a0, .int a1, .ref 1005] M Q := by
  refine A_enter ml_28 rfl ?_
  refine P_iload_n d_28_0 rfl ?_
  refine A_if_lt (tgt := 9) d_28_1 rfl hf (fun hf => ?_) (fun hf => ?_)
  · refine P_aload_n d_28_9 rfl ?_
    refine P_iload_n d_28_10 rfl ?_
    refine P_iload_n d_28_11 rfl ?_
    cases hf
  · refine P_iload_n d_28_4 rfl ?_
    refine P_iload_n d_28_5 rfl ?_
    refine A_icmp_lt (tgt := 16) d_28_6 rfl hf (fun hf => ?_) (fun hf => ?_)
    · refine P_iload_n d_28_16 rfl ?_
      exact A_iret d_28_17 mr_28 hW hf k
    · refine P_aload_n d_28_9 rfl ?_
      refine P_iload_n d_28_10 rfl ?_
      refine P_iload_n d_28_11 rfl ?_
      cases hf
def f_Str_checkIndex (a0 : Int32) (a1 : Int32) (M : AM) : Option (Unit × AM) :=
  bnd (f_Pre_checkIndex a0 a1 M) (fun r1 M2 => some ((), M2))
set_option maxRecDepth 20000 in
theorem t_Str_checkIndex {G : GT} {d : Nat} {a0 : Int32} {a1 : Int32} {M : AM} {Q : AM → Option Value → Prop} {r : Unit} {M' : AM} (hW : WT M)  (hf : f_Str_checkIndex a0 a1 M = some (r, M')) (k : WT M' → Q M' none)  : Cal G (d + 1) 27 [.int a0, .int a1] M Q := by
  refine A_enter ml_27 rfl ?_
  refine P_iload_n d_27_0 rfl ?_
  refine P_iload_n d_27_1 rfl ?_
  refine P_getFormatter d_27_2 (by rw [cn_27]; exact fm_java_lang_String_1053) ?_
  refine A_S3 d_27_5 sk_27_1059 ml_28 rfl rfl hf (fun r1 M2 hc hf => t_Pre_checkIndex hW  hc (fun hW => ?_))
  refine P_pop d_27_8 rfl ?_
  exact A_ret d_27_9 mr_27 hW hf k
def f_Lat_charAt (a0 : Nat) (a1 : Int32) (M : AM) : Option (Int32 × AM) :=
  bnd (f_Str_checkIndex a1 (Int32.ofNat (([144, 11] : List Nat).getD a0 0)) M) (fun r1 M2 => xald a0 a1 (fun x3 => some (((x3 &&& 255).toUInt32 % 65536).toInt32, M2)))
set_option maxRecDepth 20000 in
theorem t_Lat_charAt {G : GT} {d : Nat} {a0 : Nat} {a1 : Int32} {M : AM} {Q : AM → Option Value → Prop} {r : Int32} {M' : AM} (hW : WT M) (ha0 : a0 < 2) (hf : f_Lat_charAt a0 a1 M = some (r, M')) (k : WT M' → narrow .char (.int r) = .int r → Q M' (some (.int r)))  : Cal G (d + 2) 26 [.ref (1003 + a0), .int a1] M Q := by
  refine A_enter ml_26 rfl ?_
  refine P_iload_n d_26_0 rfl ?_
  refine P_aload_n d_26_1 rfl ?_
  refine P_xlen d_26_2 ha0 rfl ?_
  refine A_S2 d_26_3 sk_26_9 ml_27 rfl rfl hf (fun r1 M2 hc hf => t_Str_checkIndex hW  hc (fun hW => ?_))
  refine P_aload_n d_26_6 rfl ?_
  refine P_iload_n d_26_7 rfl ?_
  refine A_xald d_26_8 ha0 hf (fun hf => ?_)
  refine P_sipush d_26_9 si_255 ?_
  refine P_iand d_26_12 ?_
  refine P_i2c d_26_13 ?_
  exact A_nret d_26_14 mr_26 hW (pk_nc _) hf k
def f_Str_charAt (a0 : Nat) (a1 : Int32) (M : AM) : Option (Int32 × AM) :=
  bnd (f_Str_isLatin1 a0 M) (fun r1 M2 => if r1 = 0 then none else bnd (f_Lat_charAt a0 a1 M2) (fun r3 M4 => some (r3, M4)))
set_option maxRecDepth 20000 in
theorem t_Str_charAt {G : GT} {d : Nat} {a0 : Nat} {a1 : Int32} {M : AM} {Q : AM → Option Value → Prop} {r : Int32} {M' : AM} (hW : WT M) (ha0 : a0 < 2) (hf : f_Str_charAt a0 a1 M = some (r, M')) (k : WT M' → narrow .char (.int r) = .int r → Q M' (some (.int r)))  : Cal G (d + 3) 24 [.ref (1001 + a0), .int a1] M Q := by
  refine A_enter ml_24 rfl ?_
  refine P_aload_n d_24_0 rfl ?_
  refine A_T0 d_24_1 tk_24_492 ml_25 ha0 rfl rfl hf (fun r1 M2 hc hf => t_Str_isLatin1 hW ha0 hc (fun hW hb2 => ?_))
  refine A_if_eq (tgt := 16) d_24_4 rfl hf (fun hf => ?_) (fun hf => ?_)
  · refine P_aload_n d_24_16 rfl ?_
    refine P_getValue d_24_17 ha0 (by rw [cn_24]; exact fm_java_lang_String_9) ?_
    refine P_iload_n d_24_20 rfl ?_
    cases hf
  · refine P_aload_n d_24_7 rfl ?_
    refine P_getValue d_24_8 ha0 (by rw [cn_24]; exact fm_java_lang_String_9) ?_
    refine P_iload_n d_24_11 rfl ?_
    refine A_S2 d_24_12 sk_24_495 ml_26 rfl rfl hf (fun r3 M4 hc hf => t_Lat_charAt hW ha0 hc (fun hW hb4 => ?_))
    exact A_nret d_24_15 mr_24 hW hb4 hf k
def f_Tokens_kindOfWord_j45 (rec : Int32 → Int32 → AM → Option (Int32 × AM)) (v1 : Int32) (v2 : Int32) (v3 : Int32) (v5 : Int32) (s0 : Int32) (M : AM) : Option (Int32 × AM) :=
  bnd (f_Str_charAt 0 ((v3 * 8) + v5) M) (fun r1 M2 => if r1 = s0 then rec 1 (v5 + 1) M2 else rec 0 (v5 + 1) M2)
set_option maxRecDepth 20000 in
theorem t_Tokens_kindOfWord_j45 {G : GT} {d : Nat} {v1 : Int32} {v2 : Int32} {v3 : Int32} {v5 : Int32} {s0 : Int32} {M : AM} {Q : AM → Option Value → Prop} {yo : Int32} {Mo : AM} {rec : Int32 → Int32 → AM → Option (Int32 × AM)} (hrec : ∀ (v4 : Int32) (v5 : Int32) (M : AM), WT M → rec v4 v5 M = some (yo, Mo) → PW G (d + 4) 23 14 [.ref 1, .int v1, .int v2, .int v3, .int v4, .int v5, ux] [] M 0 0 Q) (k1 : WT Mo → PW G (d + 4) 23 77 [.ref 1, .int v1, .int v2, .int v3, .int yo, ux, ux] [] Mo 0 0 Q) (hW : WT M)  (hf : f_Tokens_kindOfWord_j45 rec v1 v2 v3 v5 s0 M = some (yo, Mo)) : PW G (d + 4) 23 45 [.ref 1, .int v1, .int v2, .int v3, ux, .int v5, ux] [.int s0] M 0 0 Q := by
  refine A_istore d_23_45 ml_23 rfl rfl ?_
  refine P_ldcS (i := 0) (tx := "") d_23_47 cn_23 (Or.inl ⟨rfl, rfl⟩) ?_
  refine P_iload_n d_23_49 rfl ?_
  refine P_bipush d_23_50 bi_8 ?_
  refine P_imul d_23_52 ?_
  refine P_iload d_23_53 rfl ?_
  refine P_iadd d_23_55 ?_
  refine A_T1 d_23_56 tk_23_87 ml_24 (by decide) rfl rfl hf (fun r1 M2 hc hf => t_Str_charAt hW (by decide) hc (fun hW hb2 => ?_))
  refine P_iload d_23_59 rfl ?_
  refine A_icmp_ne (tgt := 68) d_23_61 rfl hf (fun hf => ?_) (fun hf => ?_)
  · refine A_iconst d_23_68 ic_0 ?_
    refine A_istore d_23_69 ml_23 rfl rfl ?_
    refine A_iinc d_23_71 ic_1 rfl ml_23 rfl rfl ?_
    refine P_goto (tgt := 14) d_23_74 rfl ?_
    refine P_fgt [true, true, true, true, true, true, false] ?_
    exact hrec _ _ _ hW  hf
  · refine A_iconst d_23_64 ic_1 ?_
    refine P_goto (tgt := 69) d_23_65 rfl ?_
    refine A_istore d_23_69 ml_23 rfl rfl ?_
    refine A_iinc d_23_71 ic_1 rfl ml_23 rfl rfl ?_
    refine P_goto (tgt := 14) d_23_74 rfl ?_
    refine P_fgt [true, true, true, true, true, true, false] ?_
    exact hrec _ _ _ hW  hf
def f_Tokens_kindOfWord_b14 (rec : Int32 → Int32 → AM → Option (Int32 × AM)) (v1 : Int32) (v2 : Int32) (v3 : Int32) (v4 : Int32) (v5 : Int32) (M : AM) : Option (Int32 × AM) :=
  if 8 ≤ v5 then some (v4, M) else if v4 = 0 then some (v4, M) else if v2 ≤ v5 then f_Tokens_kindOfWord_j45 rec v1 v2 v3 v5 32 M else bnd (f_Tape_at (v1 + v5) M) (fun r1 M2 => f_Tokens_kindOfWord_j45 rec v1 v2 v3 v5 r1 M2)
def f_Tokens_kindOfWord_l14 (v1 : Int32) (v2 : Int32) (v3 : Int32) : Nat → Int32 → Int32 → AM → Option (Int32 × AM)
  | 0, _, _, _ => none
  | n + 1, v4, v5, M => f_Tokens_kindOfWord_b14 (f_Tokens_kindOfWord_l14 v1 v2 v3 n) v1 v2 v3 v4 v5 M
set_option maxRecDepth 20000 in
theorem t_Tokens_kindOfWord_b14 {G : GT} {d : Nat} {v1 : Int32} {v2 : Int32} {v3 : Int32} {v4 : Int32} {v5 : Int32} {M : AM} {Q : AM → Option Value → Prop} {yo : Int32} {Mo : AM} {rec : Int32 → Int32 → AM → Option (Int32 × AM)} (hrec : ∀ (v4 : Int32) (v5 : Int32) (M : AM), WT M → rec v4 v5 M = some (yo, Mo) → PW G (d + 4) 23 14 [.ref 1, .int v1, .int v2, .int v3, .int v4, .int v5, ux] [] M 0 0 Q) (k1 : WT Mo → PW G (d + 4) 23 77 [.ref 1, .int v1, .int v2, .int v3, .int yo, ux, ux] [] Mo 0 0 Q) (hW : WT M)   (hf : f_Tokens_kindOfWord_b14 rec v1 v2 v3 v4 v5 M = some (yo, Mo)) : PW G (d + 4) 23 14 [.ref 1, .int v1, .int v2, .int v3, .int v4, .int v5, ux] [] M 0 0 Q := by
  refine P_iload d_23_14 rfl ?_
  refine P_bipush d_23_16 bi_8 ?_
  refine A_icmp_ge (tgt := 77) d_23_18 rfl hf (fun hf => ?_) (fun hf => ?_)
  · refine P_fgt [true, true, true, true, true, false, false] ?_
    cases hf
    exact k1 hW 
  · refine P_iload d_23_21 rfl ?_
    refine A_if_eq (tgt := 77) d_23_23 rfl hf (fun hf => ?_) (fun hf => ?_)
    · refine P_fgt [true, true, true, true, true, false, false] ?_
      cases hf
      exact k1 hW 
    · refine P_iload d_23_26 rfl ?_
      refine P_iload_n d_23_28 rfl ?_
      refine A_icmp_ge (tgt := 43) d_23_29 rfl hf (fun hf => ?_) (fun hf => ?_)
      · refine P_bipush d_23_43 bi_32 ?_
        refine P_fgt [true, true, true, true, false, true, false] ?_
        exact t_Tokens_kindOfWord_j45 hrec k1 hW  hf
      · refine P_aload_n d_23_32 rfl ?_
        refine P_iload_n d_23_33 rfl ?_
        refine P_iload d_23_34 rfl ?_
        refine P_iadd d_23_36 ?_
        refine A_V1 d_23_37 vk_23_55 ml_19 rfl k_1 hW rfl hf (fun r1 M2 hc hf => t_Tape_at hW  hc (fun hW => ?_))
        refine P_goto (tgt := 45) d_23_40 rfl ?_
        refine P_fgt [true, true, true, true, false, true, false] ?_
        exact t_Tokens_kindOfWord_j45 hrec k1 hW  hf
theorem t_Tokens_kindOfWord_l14 {G : GT} {d : Nat} {v1 : Int32} {v2 : Int32} {v3 : Int32} {Q : AM → Option Value → Prop} {yo : Int32} {Mo : AM} (k1 : WT Mo → PW G (d + 4) 23 77 [.ref 1, .int v1, .int v2, .int v3, .int yo, ux, ux] [] Mo 0 0 Q)  : ∀ (z : Nat) (v4 : Int32) (v5 : Int32) (M : AM), WT M → f_Tokens_kindOfWord_l14 v1 v2 v3 z v4 v5 M = some (yo, Mo) → PW G (d + 4) 23 14 [.ref 1, .int v1, .int v2, .int v3, .int v4, .int v5, ux] [] M 0 0 Q := by
  intro z
  induction z with
  | zero => intro v4 v5 M hW hf; cases hf
  | succ z ih => intro v4 v5 M hW hf; exact t_Tokens_kindOfWord_b14 (fun v4 v5 M hW hf => ih v4 v5 M hW hf) k1 hW   hf
def f_Tokens_kindOfWord_b2 (rec : Int32 → AM → Option ((Unit × AM) ⊕ (Int32 × AM))) (v1 : Int32) (v2 : Int32) (v3 : Int32) (M : AM) : Option ((Unit × AM) ⊕ (Int32 × AM)) :=
  if 18 ≤ v3 then some (.inl ((), M)) else bnd (f_Tokens_kindOfWord_l14 v1 v2 v3 fu 1 0 M) (fun y1 M2 => if y1 = 0 then rec (v3 + 1) M2 else some (.inr (128 + v3, M2)))
def f_Tokens_kindOfWord_l2 (v1 : Int32) (v2 : Int32) : Nat → Int32 → AM → Option ((Unit × AM) ⊕ (Int32 × AM))
  | 0, _, _ => none
  | n + 1, v3, M => f_Tokens_kindOfWord_b2 (f_Tokens_kindOfWord_l2 v1 v2 n) v1 v2 v3 M
set_option maxRecDepth 20000 in
theorem t_Tokens_kindOfWord_b2 {G : GT} {d : Nat} {v1 : Int32} {v2 : Int32} {v3 : Int32} {M : AM} {Q : AM → Option Value → Prop} {o : (Unit × AM) ⊕ (Int32 × AM)} {rec : Int32 → AM → Option ((Unit × AM) ⊕ (Int32 × AM))} (hrec : ∀ (v3 : Int32) (M : AM), WT M → rec v3 M = some o → PW G (d + 4) 23 2 [.ref 1, .int v1, .int v2, .int v3, ux, ux, ux] [] M 0 0 Q) (k1 : ∀ (yo : Unit) (Mo : AM), o = .inl (yo, Mo) → WT Mo → PW G (d + 4) 23 94 [ux, ux, ux, ux, ux, ux, ux] [] Mo 0 0 Q) (k2 : ∀ (r : Int32) (M' : AM), o = .inr (r, M') → WT M' → Q M' (some (.int r))) (hW : WT M)   (hf : f_Tokens_kindOfWord_b2 rec v1 v2 v3 M = some o) : PW G (d + 4) 23 2 [.ref 1, .int v1, .int v2, .int v3, ux, ux, ux] [] M 0 0 Q := by
  refine P_iload_n d_23_2 rfl ?_
  refine P_bipush d_23_3 bi_18 ?_
  refine A_icmp_ge (tgt := 94) d_23_5 rfl hf (fun hf => ?_) (fun hf => ?_)
  · refine P_fgt [false, false, false, false, false, false, false] ?_
    cases hf
    exact k1 _ _ rfl hW 
  · refine A_iconst d_23_8 ic_1 ?_
    refine A_istore d_23_9 ml_23 rfl rfl ?_
    refine A_iconst d_23_11 ic_0 ?_
    refine A_istore d_23_12 ml_23 rfl rfl ?_
    obtain ⟨y1, M2, hl, hf⟩ := bnd_some hf
    refine t_Tokens_kindOfWord_l14 (fun hW => ?_)  fu _ _ _ hW  hl
    refine P_iload d_23_77 rfl ?_
    refine A_if_eq (tgt := 88) d_23_79 rfl hf (fun hf => ?_) (fun hf => ?_)
    · refine A_iinc d_23_88 ic_1 rfl ml_23 rfl rfl ?_
      refine P_goto (tgt := 2) d_23_91 rfl ?_
      refine P_fgt [true, true, true, true, false, false, false] ?_
      exact hrec _ _ hW  hf
    · refine P_sipush d_23_82 si_128 ?_
      refine P_iload_n d_23_85 rfl ?_
      refine P_iadd d_23_86 ?_
      cases hf
      exact A_iret d_23_87 mr_23 hW rfl (fun hW => k2 _ _ rfl hW)
theorem t_Tokens_kindOfWord_l2 {G : GT} {d : Nat} {v1 : Int32} {v2 : Int32} {Q : AM → Option Value → Prop} {o : (Unit × AM) ⊕ (Int32 × AM)} (k1 : ∀ (yo : Unit) (Mo : AM), o = .inl (yo, Mo) → WT Mo → PW G (d + 4) 23 94 [ux, ux, ux, ux, ux, ux, ux] [] Mo 0 0 Q) (k2 : ∀ (r : Int32) (M' : AM), o = .inr (r, M') → WT M' → Q M' (some (.int r)))  : ∀ (z : Nat) (v3 : Int32) (M : AM), WT M → f_Tokens_kindOfWord_l2 v1 v2 z v3 M = some o → PW G (d + 4) 23 2 [.ref 1, .int v1, .int v2, .int v3, ux, ux, ux] [] M 0 0 Q := by
  intro z
  induction z with
  | zero => intro v3 M hW hf; cases hf
  | succ z ih => intro v3 M hW hf; exact t_Tokens_kindOfWord_b2 (fun v3 M hW hf => ih v3 M hW hf) k1 k2 hW   hf
def f_Tokens_kindOfWord (a1 : Int32) (a2 : Int32) (M : AM) : Option (Int32 × AM) :=
  bn2 (f_Tokens_kindOfWord_l2 a1 a2 fu 0 M) (fun y1 M2 => some (2, M2))
set_option maxRecDepth 20000 in
theorem t_Tokens_kindOfWord {G : GT} {d : Nat} {a1 : Int32} {a2 : Int32} {M : AM} {Q : AM → Option Value → Prop} {r : Int32} {M' : AM} (hW : WT M)  (hf : f_Tokens_kindOfWord a1 a2 M = some (r, M')) (k : WT M' → Q M' (some (.int r)))  : Cal G (d + 4) 23 [.ref 1, .int a1, .int a2] M Q := by
  refine A_enter ml_23 rfl ?_
  refine A_iconst d_23_0 ic_0 ?_
  refine A_istore_n d_23_1 ml_23 rfl rfl ?_
  obtain ⟨o, hl, hf⟩ := bn2_some hf
  refine t_Tokens_kindOfWord_l2 (o := o) (fun y1 M2 e hW => ?_) (fun r1 Mr e hW => ?_)  fu _ _ hW  hl
  · subst e
    change _ = some (r, M') at hf
    refine A_iconst d_23_94 ic_2 ?_
    exact A_iret d_23_95 mr_23 hW hf k
  · subst e; cases hf; exact k hW
def f_Tokens_takeWord_b11 (rec : Int64 → Int32 → AM → Option (Int64 × AM)) (v2 : Int32) (v3 : Int32) (v4 : Int64) (v6 : Int32) (M : AM) : Option (Int64 × AM) :=
  if 1600 ≤ v6 then some (v4, M) else bnd (f_Tape_at (gI M 3 5) M) (fun r1 M2 => bnd (f_Tokens_isLetter r1 M2) (fun r3 M4 => if r3 = 0 then some (v4, M4) else bnd (f_Tape_at (gI M4 3 5) M4) (fun r5 M6 => wI M6 3 5 ((gI M6 3 5) + 1) (fun M7 => rec ((v4 * 32) + (((r5 - 97) + 1).toInt64)) (v6 + 1) M7))))
def f_Tokens_takeWord_l11 (v2 : Int32) (v3 : Int32) : Nat → Int64 → Int32 → AM → Option (Int64 × AM)
  | 0, _, _, _ => none
  | n + 1, v4, v6, M => f_Tokens_takeWord_b11 (f_Tokens_takeWord_l11 v2 v3 n) v2 v3 v4 v6 M
set_option maxRecDepth 20000 in
theorem t_Tokens_takeWord_b11 {G : GT} {d : Nat} {v2 : Int32} {v3 : Int32} {v4 : Int64} {v6 : Int32} {M : AM} {Q : AM → Option Value → Prop} {yo : Int64} {Mo : AM} {rec : Int64 → Int32 → AM → Option (Int64 × AM)} (hrec : ∀ (v4 : Int64) (v6 : Int32) (M : AM), WT M → rec v4 v6 M = some (yo, Mo) → PW G (d + 5) 22 11 [.ref 3, .ref 1, .int v2, .int v3, .long v4, ux, .int v6] [] M 0 0 Q) (k1 : WT Mo → PW G (d + 5) 22 72 [.ref 3, .ref 1, .int v2, .int v3, .long yo, ux, ux] [] Mo 0 0 Q) (hW : WT M)   (hf : f_Tokens_takeWord_b11 rec v2 v3 v4 v6 M = some (yo, Mo)) : PW G (d + 5) 22 11 [.ref 3, .ref 1, .int v2, .int v3, .long v4, ux, .int v6] [] M 0 0 Q := by
  refine P_iload d_22_11 rfl ?_
  refine P_sipush d_22_13 si_1600 ?_
  refine A_icmp_ge (tgt := 72) d_22_16 rfl hf (fun hf => ?_) (fun hf => ?_)
  · refine P_fgt [true, true, true, true, true, false, false] ?_
    cases hf
    exact k1 hW 
  · refine P_aload_n d_22_19 rfl ?_
    refine P_aload_n d_22_20 rfl ?_
    refine A_gI d_22_21 cn_22 fk_CordLoft_Tokens_28 k_3 hW ?_
    refine A_V1 d_22_24 vk_22_55 ml_19 rfl k_1 hW rfl hf (fun r1 M2 hc hf => t_Tape_at hW  hc (fun hW => ?_))
    refine A_S1 d_22_27 sk_22_59 ml_21 rfl rfl hf (fun r3 M4 hc hf => t_Tokens_isLetter hW  hc (fun hW hb4 => ?_))
    refine A_if_eq (tgt := 72) d_22_30 rfl hf (fun hf => ?_) (fun hf => ?_)
    · refine P_fgt [true, true, true, true, true, false, false] ?_
      cases hf
      exact k1 hW 
    · refine P_lload d_22_33 rfl ?_
      refine A_ldc2 d_22_35 cn_22 cl_CordLoft_Tokens_79 ?_
      refine P_lmul d_22_38 ?_
      refine P_aload_n d_22_39 rfl ?_
      refine P_aload_n d_22_40 rfl ?_
      refine A_gI d_22_41 cn_22 fk_CordLoft_Tokens_28 k_3 hW ?_
      refine A_V1 d_22_44 vk_22_55 ml_19 rfl k_1 hW rfl hf (fun r5 M6 hc hf => t_Tape_at hW  hc (fun hW => ?_))
      refine P_bipush d_22_47 bi_97 ?_
      refine P_isub d_22_49 ?_
      refine A_iconst d_22_50 ic_1 ?_
      refine P_iadd d_22_51 ?_
      refine P_i2l d_22_52 ?_
      refine P_ladd d_22_53 ?_
      refine A_lstore d_22_54 ml_22 rfl rfl ?_
      refine P_aload_n d_22_56 rfl ?_
      refine P_dup d_22_57 rfl ?_
      refine A_gI d_22_58 cn_22 fk_CordLoft_Tokens_28 k_3 hW ?_
      refine A_iconst d_22_61 ic_1 ?_
      refine P_iadd d_22_62 ?_
      refine A_pI d_22_63 cn_22 fp_CordLoft_Tokens_28 k_3 hW hf (fun hW hf => ?_)
      refine A_iinc d_22_66 ic_1 rfl ml_22 rfl rfl ?_
      refine P_goto (tgt := 11) d_22_69 rfl ?_
      exact hrec _ _ _ hW  hf
theorem t_Tokens_takeWord_l11 {G : GT} {d : Nat} {v2 : Int32} {v3 : Int32} {Q : AM → Option Value → Prop} {yo : Int64} {Mo : AM} (k1 : WT Mo → PW G (d + 5) 22 72 [.ref 3, .ref 1, .int v2, .int v3, .long yo, ux, ux] [] Mo 0 0 Q)  : ∀ (z : Nat) (v4 : Int64) (v6 : Int32) (M : AM), WT M → f_Tokens_takeWord_l11 v2 v3 z v4 v6 M = some (yo, Mo) → PW G (d + 5) 22 11 [.ref 3, .ref 1, .int v2, .int v3, .long v4, ux, .int v6] [] M 0 0 Q := by
  intro z
  induction z with
  | zero => intro v4 v6 M hW hf; cases hf
  | succ z ih => intro v4 v6 M hW hf; exact t_Tokens_takeWord_b11 (fun v4 v6 M hW hf => ih v4 v6 M hW hf) k1 hW   hf
def f_Tokens_takeWord (a2 : Int32) (M : AM) : Option (Int32 × AM) :=
  bnd (f_Tokens_takeWord_l11 a2 (gI M 3 5) fu 0 0 M) (fun y1 M2 => last' 1601 M2 6 a2 y1 (fun M3 => if ((gI M3 3 5) - (gI M 3 5)) ≤ 8 then bnd (f_Tokens_kindOfWord (gI M 3 5) ((gI M3 3 5) - (gI M 3 5)) M3) (fun r4 M5 => some (r4, M5)) else some (1, M3)))
set_option maxRecDepth 20000 in
theorem t_Tokens_takeWord {G : GT} {d : Nat} {a2 : Int32} {M : AM} {Q : AM → Option Value → Prop} {r : Int32} {M' : AM} (hW : WT M)  (hf : f_Tokens_takeWord a2 M = some (r, M')) (k : WT M' → Q M' (some (.int r)))  : Cal G (d + 5) 22 [.ref 3, .ref 1, .int a2] M Q := by
  refine A_enter ml_22 rfl ?_
  refine P_aload_n d_22_0 rfl ?_
  refine A_gI d_22_1 cn_22 fk_CordLoft_Tokens_28 k_3 hW ?_
  refine A_istore_n d_22_4 ml_22 rfl rfl ?_
  refine P_lconst d_22_5 lc_0 ?_
  refine A_lstore d_22_6 ml_22 rfl rfl ?_
  refine A_iconst d_22_8 ic_0 ?_
  refine A_istore d_22_9 ml_22 rfl rfl ?_
  obtain ⟨y1, M2, hl, hf⟩ := bnd_some hf
  refine t_Tokens_takeWord_l11 (fun hW => ?_)  fu _ _ _ hW  hl
  refine P_aload_n d_22_72 rfl ?_
  refine A_gF d_22_73 cn_22 fk_CordLoft_Tokens_20 ft_11_2 k_3 hW ?_
  refine P_iload_n d_22_76 rfl ?_
  refine P_lload d_22_77 rfl ?_
  refine A_last d_22_79 k_6 l_6 hW hf (fun hW hf => ?_)
  refine P_aload_n d_22_80 rfl ?_
  refine A_gI d_22_81 cn_22 fk_CordLoft_Tokens_28 k_3 hW ?_
  refine P_iload_n d_22_84 rfl ?_
  refine P_isub d_22_85 ?_
  refine P_bipush d_22_86 bi_8 ?_
  refine A_icmp_le (tgt := 95) d_22_88 rfl hf (fun hf => ?_) (fun hf => ?_)
  · refine P_aload_n d_22_95 rfl ?_
    refine P_iload_n d_22_96 rfl ?_
    refine P_aload_n d_22_97 rfl ?_
    refine A_gI d_22_98 cn_22 fk_CordLoft_Tokens_28 k_3 hW ?_
    refine P_iload_n d_22_101 rfl ?_
    refine P_isub d_22_102 ?_
    refine A_S3 d_22_103 sk_22_81 ml_23 rfl rfl hf (fun r4 M5 hc hf => t_Tokens_kindOfWord hW  hc (fun hW => ?_))
    exact A_iret d_22_106 mr_22 hW hf k
  · refine A_iconst d_22_91 ic_1 ?_
    refine P_goto (tgt := 106) d_22_92 rfl ?_
    exact A_iret d_22_106 mr_22 hW hf k
def f_Tokens_isDigit (a0 : Int32) (M : AM) : Option (Int32 × AM) :=
  if a0 < 48 then some (0, M) else if 57 < a0 then some (0, M) else some (1, M)
set_option maxRecDepth 20000 in
theorem t_Tokens_isDigit {G : GT} {d : Nat} {a0 : Int32} {M : AM} {Q : AM → Option Value → Prop} {r : Int32} {M' : AM} (hW : WT M)  (hf : f_Tokens_isDigit a0 M = some (r, M')) (k : WT M' → (r = 0 ∨ r = 1) → Q M' (some (.int r)))  : Cal G d 33 [.int a0] M Q := by
  refine A_enter ml_33 rfl ?_
  refine P_iload_n d_33_0 rfl ?_
  refine P_bipush d_33_1 bi_48 ?_
  refine A_icmp_lt (tgt := 16) d_33_3 rfl hf (fun hf => ?_) (fun hf => ?_)
  · refine A_iconst d_33_16 ic_0 ?_
    exact A_zret d_33_17 mr_33 hW (Or.inl rfl) hf k
  · refine P_iload_n d_33_6 rfl ?_
    refine P_bipush d_33_7 bi_57 ?_
    refine A_icmp_gt (tgt := 16) d_33_9 rfl hf (fun hf => ?_) (fun hf => ?_)
    · refine A_iconst d_33_16 ic_0 ?_
      exact A_zret d_33_17 mr_33 hW (Or.inl rfl) hf k
    · refine A_iconst d_33_12 ic_1 ?_
      refine P_goto (tgt := 17) d_33_13 rfl ?_
      exact A_zret d_33_17 mr_33 hW (Or.inr rfl) hf k
def f_Tokens_takeNumber_j102  (M : AM) : Option (Int32 × AM) :=
  some (1, M)
set_option maxRecDepth 20000 in
theorem t_Tokens_takeNumber_j102 {G : GT} {d : Nat}  {M : AM} {Q : AM → Option Value → Prop} {r : Int32} {M' : AM} (k : WT M' → Q M' (some (.int r))) (hW : WT M)  (hf : f_Tokens_takeNumber_j102  M = some (r, M')) : PW G (d + 1) 34 102 [ux, ux, ux, ux, ux, ux, ux] [] M 0 0 Q := by
  refine A_iconst d_34_102 ic_1 ?_
  refine P_goto (tgt := 107) d_34_103 rfl ?_
  exact A_iret d_34_107 mr_34 hW hf k
def f_Tokens_takeNumber_b11 (rec : Int64 → Int32 → AM → Option (Int64 × AM)) (v2 : Int32) (v3 : Int32) (v4 : Int64) (v6 : Int32) (M : AM) : Option (Int64 × AM) :=
  if 1600 ≤ v6 then some (v4, M) else bnd (f_Tape_at (gI M 3 5) M) (fun r1 M2 => bnd (f_Tokens_isDigit r1 M2) (fun r3 M4 => if r3 = 0 then some (v4, M4) else bnd (f_Tape_at (gI M4 3 5) M4) (fun r5 M6 => wI M6 3 5 ((gI M6 3 5) + 1) (fun M7 => rec ((v4 * 10) + ((r5 - 48).toInt64)) (v6 + 1) M7))))
def f_Tokens_takeNumber_l11 (v2 : Int32) (v3 : Int32) : Nat → Int64 → Int32 → AM → Option (Int64 × AM)
  | 0, _, _, _ => none
  | n + 1, v4, v6, M => f_Tokens_takeNumber_b11 (f_Tokens_takeNumber_l11 v2 v3 n) v2 v3 v4 v6 M
set_option maxRecDepth 20000 in
theorem t_Tokens_takeNumber_b11 {G : GT} {d : Nat} {v2 : Int32} {v3 : Int32} {v4 : Int64} {v6 : Int32} {M : AM} {Q : AM → Option Value → Prop} {yo : Int64} {Mo : AM} {rec : Int64 → Int32 → AM → Option (Int64 × AM)} (hrec : ∀ (v4 : Int64) (v6 : Int32) (M : AM), WT M → rec v4 v6 M = some (yo, Mo) → PW G (d + 1) 34 11 [.ref 3, .ref 1, .int v2, .int v3, .long v4, ux, .int v6] [] M 0 0 Q) (k1 : WT Mo → PW G (d + 1) 34 70 [.ref 3, .ref 1, .int v2, .int v3, .long yo, ux, ux] [] Mo 0 0 Q) (hW : WT M)   (hf : f_Tokens_takeNumber_b11 rec v2 v3 v4 v6 M = some (yo, Mo)) : PW G (d + 1) 34 11 [.ref 3, .ref 1, .int v2, .int v3, .long v4, ux, .int v6] [] M 0 0 Q := by
  refine P_iload d_34_11 rfl ?_
  refine P_sipush d_34_13 si_1600 ?_
  refine A_icmp_ge (tgt := 70) d_34_16 rfl hf (fun hf => ?_) (fun hf => ?_)
  · refine P_fgt [true, true, true, true, true, false, false] ?_
    cases hf
    exact k1 hW 
  · refine P_aload_n d_34_19 rfl ?_
    refine P_aload_n d_34_20 rfl ?_
    refine A_gI d_34_21 cn_34 fk_CordLoft_Tokens_28 k_3 hW ?_
    refine A_V1 d_34_24 vk_34_55 ml_19 rfl k_1 hW rfl hf (fun r1 M2 hc hf => t_Tape_at hW  hc (fun hW => ?_))
    refine A_S1 d_34_27 sk_34_66 ml_33 rfl rfl hf (fun r3 M4 hc hf => t_Tokens_isDigit hW  hc (fun hW hb4 => ?_))
    refine A_if_eq (tgt := 70) d_34_30 rfl hf (fun hf => ?_) (fun hf => ?_)
    · refine P_fgt [true, true, true, true, true, false, false] ?_
      cases hf
      exact k1 hW 
    · refine P_lload d_34_33 rfl ?_
      refine A_ldc2 d_34_35 cn_34 cl_CordLoft_Tokens_91 ?_
      refine P_lmul d_34_38 ?_
      refine P_aload_n d_34_39 rfl ?_
      refine P_aload_n d_34_40 rfl ?_
      refine A_gI d_34_41 cn_34 fk_CordLoft_Tokens_28 k_3 hW ?_
      refine A_V1 d_34_44 vk_34_55 ml_19 rfl k_1 hW rfl hf (fun r5 M6 hc hf => t_Tape_at hW  hc (fun hW => ?_))
      refine P_bipush d_34_47 bi_48 ?_
      refine P_isub d_34_49 ?_
      refine P_i2l d_34_50 ?_
      refine P_ladd d_34_51 ?_
      refine A_lstore d_34_52 ml_34 rfl rfl ?_
      refine P_aload_n d_34_54 rfl ?_
      refine P_dup d_34_55 rfl ?_
      refine A_gI d_34_56 cn_34 fk_CordLoft_Tokens_28 k_3 hW ?_
      refine A_iconst d_34_59 ic_1 ?_
      refine P_iadd d_34_60 ?_
      refine A_pI d_34_61 cn_34 fp_CordLoft_Tokens_28 k_3 hW hf (fun hW hf => ?_)
      refine A_iinc d_34_64 ic_1 rfl ml_34 rfl rfl ?_
      refine P_goto (tgt := 11) d_34_67 rfl ?_
      exact hrec _ _ _ hW  hf
theorem t_Tokens_takeNumber_l11 {G : GT} {d : Nat} {v2 : Int32} {v3 : Int32} {Q : AM → Option Value → Prop} {yo : Int64} {Mo : AM} (k1 : WT Mo → PW G (d + 1) 34 70 [.ref 3, .ref 1, .int v2, .int v3, .long yo, ux, ux] [] Mo 0 0 Q)  : ∀ (z : Nat) (v4 : Int64) (v6 : Int32) (M : AM), WT M → f_Tokens_takeNumber_l11 v2 v3 z v4 v6 M = some (yo, Mo) → PW G (d + 1) 34 11 [.ref 3, .ref 1, .int v2, .int v3, .long v4, ux, .int v6] [] M 0 0 Q := by
  intro z
  induction z with
  | zero => intro v4 v6 M hW hf; cases hf
  | succ z ih => intro v4 v6 M hW hf; exact t_Tokens_takeNumber_b11 (fun v4 v6 M hW hf => ih v4 v6 M hW hf) k1 hW   hf
def f_Tokens_takeNumber (a2 : Int32) (M : AM) : Option (Int32 × AM) :=
  bnd (f_Tokens_takeNumber_l11 a2 (gI M 3 5) fu 0 0 M) (fun y1 M2 => last' 1601 M2 6 a2 y1 (fun M3 => if 4 < ((gI M3 3 5) - (gI M 3 5)) then f_Tokens_takeNumber_j102  M3 else bnd (f_Tape_at (gI M3 3 5) M3) (fun r4 M5 => bnd (f_Tokens_isLetter r4 M5) (fun r6 M7 => if r6 = 0 then some (3, M7) else f_Tokens_takeNumber_j102  M7))))
set_option maxRecDepth 20000 in
theorem t_Tokens_takeNumber {G : GT} {d : Nat} {a2 : Int32} {M : AM} {Q : AM → Option Value → Prop} {r : Int32} {M' : AM} (hW : WT M)  (hf : f_Tokens_takeNumber a2 M = some (r, M')) (k : WT M' → Q M' (some (.int r)))  : Cal G (d + 1) 34 [.ref 3, .ref 1, .int a2] M Q := by
  refine A_enter ml_34 rfl ?_
  refine P_aload_n d_34_0 rfl ?_
  refine A_gI d_34_1 cn_34 fk_CordLoft_Tokens_28 k_3 hW ?_
  refine A_istore_n d_34_4 ml_34 rfl rfl ?_
  refine P_lconst d_34_5 lc_0 ?_
  refine A_lstore d_34_6 ml_34 rfl rfl ?_
  refine A_iconst d_34_8 ic_0 ?_
  refine A_istore d_34_9 ml_34 rfl rfl ?_
  obtain ⟨y1, M2, hl, hf⟩ := bnd_some hf
  refine t_Tokens_takeNumber_l11 (fun hW => ?_)  fu _ _ _ hW  hl
  refine P_aload_n d_34_70 rfl ?_
  refine A_gF d_34_71 cn_34 fk_CordLoft_Tokens_20 ft_11_2 k_3 hW ?_
  refine P_iload_n d_34_74 rfl ?_
  refine P_lload d_34_75 rfl ?_
  refine A_last d_34_77 k_6 l_6 hW hf (fun hW hf => ?_)
  refine P_aload_n d_34_78 rfl ?_
  refine A_gI d_34_79 cn_34 fk_CordLoft_Tokens_28 k_3 hW ?_
  refine P_iload_n d_34_82 rfl ?_
  refine P_isub d_34_83 ?_
  refine A_iconst d_34_84 ic_4 ?_
  refine A_icmp_gt (tgt := 102) d_34_85 rfl hf (fun hf => ?_) (fun hf => ?_)
  · refine P_fgt [false, false, false, false, false, false, false] ?_
    exact t_Tokens_takeNumber_j102 k hW  hf
  · refine P_aload_n d_34_88 rfl ?_
    refine P_aload_n d_34_89 rfl ?_
    refine A_gI d_34_90 cn_34 fk_CordLoft_Tokens_28 k_3 hW ?_
    refine A_V1 d_34_93 vk_34_55 ml_19 rfl k_1 hW rfl hf (fun r4 M5 hc hf => t_Tape_at hW  hc (fun hW => ?_))
    refine A_S1 d_34_96 sk_34_59 ml_21 rfl rfl hf (fun r6 M7 hc hf => t_Tokens_isLetter hW  hc (fun hW hb7 => ?_))
    refine A_if_eq (tgt := 106) d_34_99 rfl hf (fun hf => ?_) (fun hf => ?_)
    · refine A_iconst d_34_106 ic_3 ?_
      exact A_iret d_34_107 mr_34 hW hf k
    · refine P_fgt [false, false, false, false, false, false, false] ?_
      exact t_Tokens_takeNumber_j102 k hW  hf
def f_Str_coder (a0 : Nat) (M : AM) : Option (Int32 × AM) :=
  if (1 : Int32) = 0 then some (1, M) else some (0, M)
set_option maxRecDepth 20000 in
theorem t_Str_coder {G : GT} {d : Nat} {a0 : Nat} {M : AM} {Q : AM → Option Value → Prop} {r : Int32} {M' : AM} (hW : WT M) (ha0 : a0 < 2) (hf : f_Str_coder a0 M = some (r, M')) (k : WT M' → narrow .byte (.int r) = .int r → Q M' (some (.int r)))  : Cal G d 38 [.ref (1001 + a0)] M Q := by
  refine A_enter ml_38 rfl ?_
  refine P_getCompact d_38_0 (by rw [cn_38]; exact fm_java_lang_String_38) ?_
  refine A_if_eq (tgt := 13) d_38_3 rfl hf (fun hf => ?_) (fun hf => ?_)
  · refine A_iconst d_38_13 ic_1 ?_
    exact A_nret d_38_14 mr_38 hW rfl hf k
  · refine P_aload_n d_38_6 rfl ?_
    refine P_getCoder d_38_7 ha0 (by rw [cn_38]; exact fm_java_lang_String_15) ?_
    refine P_goto (tgt := 14) d_38_10 rfl ?_
    exact A_nret d_38_14 mr_38 hW rfl hf k
def f_Str_length (a0 : Nat) (M : AM) : Option (Int32 × AM) :=
  bnd (f_Str_coder a0 M) (fun r1 M2 => some ((Int32.ofNat (([144, 11] : List Nat).getD a0 0)) >>> (r1 &&& 31), M2))
set_option maxRecDepth 20000 in
theorem t_Str_length {G : GT} {d : Nat} {a0 : Nat} {M : AM} {Q : AM → Option Value → Prop} {r : Int32} {M' : AM} (hW : WT M) (ha0 : a0 < 2) (hf : f_Str_length a0 M = some (r, M')) (k : WT M' → Q M' (some (.int r)))  : Cal G (d + 1) 37 [.ref (1001 + a0)] M Q := by
  refine A_enter ml_37 rfl ?_
  refine P_aload_n d_37_0 rfl ?_
  refine P_getValue d_37_1 ha0 (by rw [cn_37]; exact fm_java_lang_String_9) ?_
  refine P_xlen d_37_4 ha0 rfl ?_
  refine P_aload_n d_37_5 rfl ?_
  refine A_T0 d_37_6 tk_37_335 ml_38 ha0 rfl rfl hf (fun r1 M2 hc hf => t_Str_coder hW ha0 hc (fun hW hb2 => ?_))
  refine P_ishr d_37_9 ?_
  exact A_iret d_37_10 mr_37 hW hf k
def f_Lat_canEncode (a0 : Int32) (M : AM) : Option (Int32 × AM) :=
  if a0 < 0 then some (0, M) else if 255 < a0 then some (0, M) else some (1, M)
set_option maxRecDepth 20000 in
theorem t_Lat_canEncode {G : GT} {d : Nat} {a0 : Int32} {M : AM} {Q : AM → Option Value → Prop} {r : Int32} {M' : AM} (hW : WT M)  (hf : f_Lat_canEncode a0 M = some (r, M')) (k : WT M' → (r = 0 ∨ r = 1) → Q M' (some (.int r)))  : Cal G d 40 [.int a0] M Q := by
  refine A_enter ml_40 rfl ?_
  refine P_iload_n d_40_0 rfl ?_
  refine A_if_lt (tgt := 15) d_40_1 rfl hf (fun hf => ?_) (fun hf => ?_)
  · refine A_iconst d_40_15 ic_0 ?_
    exact A_zret d_40_16 mr_40 hW (Or.inl rfl) hf k
  · refine P_iload_n d_40_4 rfl ?_
    refine P_sipush d_40_5 si_255 ?_
    refine A_icmp_gt (tgt := 15) d_40_8 rfl hf (fun hf => ?_) (fun hf => ?_)
    · refine A_iconst d_40_15 ic_0 ?_
      exact A_zret d_40_16 mr_40 hW (Or.inl rfl) hf k
    · refine A_iconst d_40_11 ic_1 ?_
      refine P_goto (tgt := 16) d_40_12 rfl ?_
      exact A_zret d_40_16 mr_40 hW (Or.inr rfl) hf k
def f_Lat_indexOfChar_b7 (rec : Int32 → AM → Option ((Unit × AM) ⊕ (Int32 × AM))) (v0 : Nat) (v3 : Int32) (v4 : Int32) (v5 : Int32) (M : AM) : Option ((Unit × AM) ⊕ (Int32 × AM)) :=
  if v3 ≤ v5 then some (.inl ((), M)) else xald v0 v5 (fun x1 => if x1 = v4 then some (.inr (v5, M)) else rec (v5 + 1) M)
def f_Lat_indexOfChar_l7 (v0 : Nat) (v3 : Int32) (v4 : Int32) : Nat → Int32 → AM → Option ((Unit × AM) ⊕ (Int32 × AM))
  | 0, _, _ => none
  | n + 1, v5, M => f_Lat_indexOfChar_b7 (f_Lat_indexOfChar_l7 v0 v3 v4 n) v0 v3 v4 v5 M
set_option maxRecDepth 20000 in
theorem t_Lat_indexOfChar_b7 {G : GT} {d : Nat} {v0 : Nat} {v3 : Int32} {v4 : Int32} {v5 : Int32} {M : AM} {Q : AM → Option Value → Prop} {o : (Unit × AM) ⊕ (Int32 × AM)} {rec : Int32 → AM → Option ((Unit × AM) ⊕ (Int32 × AM))} (hrec : ∀ (v5 : Int32) (M : AM), WT M → rec v5 M = some o → PW G d 43 7 [.ref (1003 + v0), ux, ux, .int v3, .int v4, .int v5] [] M 0 0 Q) (k1 : ∀ (yo : Unit) (Mo : AM), o = .inl (yo, Mo) → WT Mo → PW G d 43 31 [ux, ux, ux, ux, ux, ux] [] Mo 0 0 Q) (k2 : ∀ (r : Int32) (M' : AM), o = .inr (r, M') → WT M' → Q M' (some (.int r))) (hW : WT M) (hv0 : v0 < 2)  (hf : f_Lat_indexOfChar_b7 rec v0 v3 v4 v5 M = some o) : PW G d 43 7 [.ref (1003 + v0), ux, ux, .int v3, .int v4, .int v5] [] M 0 0 Q := by
  refine P_iload d_43_7 rfl ?_
  refine P_iload_n d_43_9 rfl ?_
  refine A_icmp_ge (tgt := 31) d_43_10 rfl hf (fun hf => ?_) (fun hf => ?_)
  · refine P_fgt [false, false, false, false, false, false] ?_
    cases hf
    exact k1 _ _ rfl hW 
  · refine P_aload_n d_43_13 rfl ?_
    refine P_iload d_43_14 rfl ?_
    refine A_xald d_43_16 hv0 hf (fun hf => ?_)
    refine P_iload d_43_17 rfl ?_
    refine A_icmp_ne (tgt := 25) d_43_19 rfl hf (fun hf => ?_) (fun hf => ?_)
    · refine A_iinc d_43_25 ic_1 rfl ml_43 rfl rfl ?_
      refine P_goto (tgt := 7) d_43_28 rfl ?_
      exact hrec _ _ hW  hf
    · refine P_iload d_43_22 rfl ?_
      cases hf
      exact A_iret d_43_24 mr_43 hW rfl (fun hW => k2 _ _ rfl hW)
theorem t_Lat_indexOfChar_l7 {G : GT} {d : Nat} {v0 : Nat} {v3 : Int32} {v4 : Int32} {Q : AM → Option Value → Prop} {o : (Unit × AM) ⊕ (Int32 × AM)} (k1 : ∀ (yo : Unit) (Mo : AM), o = .inl (yo, Mo) → WT Mo → PW G d 43 31 [ux, ux, ux, ux, ux, ux] [] Mo 0 0 Q) (k2 : ∀ (r : Int32) (M' : AM), o = .inr (r, M') → WT M' → Q M' (some (.int r))) (hv0 : v0 < 2) : ∀ (z : Nat) (v5 : Int32) (M : AM), WT M → f_Lat_indexOfChar_l7 v0 v3 v4 z v5 M = some o → PW G d 43 7 [.ref (1003 + v0), ux, ux, .int v3, .int v4, .int v5] [] M 0 0 Q := by
  intro z
  induction z with
  | zero => intro v5 M hW hf; cases hf
  | succ z ih => intro v5 M hW hf; exact t_Lat_indexOfChar_b7 (fun v5 M hW hf => ih v5 M hW hf) k1 k2 hW hv0  hf
def f_Lat_indexOfChar (a0 : Nat) (a1 : Int32) (a2 : Int32) (a3 : Int32) (M : AM) : Option (Int32 × AM) :=
  bn2 (f_Lat_indexOfChar_l7 a0 a3 ((a1).toInt8.toInt32) fu a2 M) (fun y1 M2 => some ((-1), M2))
set_option maxRecDepth 20000 in
theorem t_Lat_indexOfChar {G : GT} {d : Nat} {a0 : Nat} {a1 : Int32} {a2 : Int32} {a3 : Int32} {M : AM} {Q : AM → Option Value → Prop} {r : Int32} {M' : AM} (hW : WT M) (ha0 : a0 < 2) (hf : f_Lat_indexOfChar a0 a1 a2 a3 M = some (r, M')) (k : WT M' → Q M' (some (.int r)))  : Cal G d 43 [.ref (1003 + a0), .int a1, .int a2, .int a3] M Q := by
  refine A_enter ml_43 rfl ?_
  refine P_iload_n d_43_0 rfl ?_
  refine P_i2b d_43_1 ?_
  refine A_istore d_43_2 ml_43 rfl rfl ?_
  refine P_iload_n d_43_4 rfl ?_
  refine A_istore d_43_5 ml_43 rfl rfl ?_
  obtain ⟨o, hl, hf⟩ := bn2_some hf
  refine P_fgt [true, false, false, true, true, true] ?_
  refine t_Lat_indexOfChar_l7 (o := o) (fun y1 M2 e hW => ?_) (fun r1 Mr e hW => ?_) ha0 fu _ _ hW  hl
  · subst e
    change _ = some (r, M') at hf
    refine A_iconst d_43_31 ic_m1 ?_
    exact A_iret d_43_32 mr_43 hW hf k
  · subst e; cases hf; exact k hW
def f_Lat_indexOf (a0 : Nat) (a1 : Int32) (a2 : Int32) (a3 : Int32) (M : AM) : Option (Int32 × AM) :=
  bnd (f_Lat_canEncode a1 M) (fun r1 M2 => if r1 = 0 then some ((-1), M2) else if (if a2 < 0 then 0 else a2) < (if (Int32.ofNat (([144, 11] : List Nat).getD a0 0)) < a3 then (Int32.ofNat (([144, 11] : List Nat).getD a0 0)) else a3) then bnd (f_Lat_indexOfChar a0 a1 (if a2 < 0 then 0 else a2) (if (Int32.ofNat (([144, 11] : List Nat).getD a0 0)) < a3 then (Int32.ofNat (([144, 11] : List Nat).getD a0 0)) else a3) M2) (fun r3 M4 => some (r3, M4)) else some ((-1), M2))
set_option maxRecDepth 20000 in
theorem t_Lat_indexOf {G : GT} {d : Nat} {a0 : Nat} {a1 : Int32} {a2 : Int32} {a3 : Int32} {M : AM} {Q : AM → Option Value → Prop} {r : Int32} {M' : AM} (hW : WT M) (ha0 : a0 < 2) (hf : f_Lat_indexOf a0 a1 a2 a3 M = some (r, M')) (k : WT M' → Q M' (some (.int r)))  : Cal G (d + 1) 39 [.ref (1003 + a0), .int a1, .int a2, .int a3] M Q := by
  refine A_enter ml_39 rfl ?_
  refine P_iload_n d_39_0 rfl ?_
  refine A_S1 d_39_1 sk_39_88 ml_40 rfl rfl hf (fun r1 M2 hc hf => t_Lat_canEncode hW  hc (fun hW hb2 => ?_))
  refine A_if_ne (tgt := 9) d_39_4 rfl hf (fun hf => ?_) (fun hf => ?_)
  · refine P_iload_n d_39_9 rfl ?_
    refine A_iconst d_39_10 ic_0 ?_
    refine A_max d_39_11 cn_39 mk_java_lang_StringLatin1_92 rfl ?_
    refine A_istore_n d_39_14 ml_39 rfl rfl ?_
    refine P_iload_n d_39_15 rfl ?_
    refine P_aload_n d_39_16 rfl ?_
    refine P_xlen d_39_17 ha0 rfl ?_
    refine A_min d_39_18 cn_39 mk_java_lang_StringLatin1_38 rfl ?_
    refine A_istore_n d_39_21 ml_39 rfl rfl ?_
    refine P_iload_n d_39_22 rfl ?_
    refine P_iload_n d_39_23 rfl ?_
    refine A_icmp_lt (tgt := 29) d_39_24 rfl hf (fun hf => ?_) (fun hf => ?_)
    · refine P_aload_n d_39_29 rfl ?_
      refine P_iload_n d_39_30 rfl ?_
      refine P_iload_n d_39_31 rfl ?_
      refine P_iload_n d_39_32 rfl ?_
      refine A_S4 d_39_33 sk_39_95 ml_43 rfl rfl hf (fun r3 M4 hc hf => t_Lat_indexOfChar hW ha0 hc (fun hW => ?_))
      exact A_iret d_39_36 mr_39 hW hf k
    · refine A_iconst d_39_27 ic_m1 ?_
      exact A_iret d_39_28 mr_39 hW hf k
  · refine A_iconst d_39_7 ic_m1 ?_
    exact A_iret d_39_8 mr_39 hW hf k
def f_Str_indexOf2 (a0 : Nat) (a1 : Int32) (a2 : Int32) (M : AM) : Option (Int32 × AM) :=
  bnd (f_Str_isLatin1 a0 M) (fun r1 M2 => if r1 = 0 then bnd (f_Str_length a0 M2) (fun r3 M4 => none) else bnd (f_Str_length a0 M2) (fun r5 M6 => bnd (f_Lat_indexOf a0 a1 a2 r5 M6) (fun r7 M8 => some (r7, M8))))
set_option maxRecDepth 20000 in
theorem t_Str_indexOf2 {G : GT} {d : Nat} {a0 : Nat} {a1 : Int32} {a2 : Int32} {M : AM} {Q : AM → Option Value → Prop} {r : Int32} {M' : AM} (hW : WT M) (ha0 : a0 < 2) (hf : f_Str_indexOf2 a0 a1 a2 M = some (r, M')) (k : WT M' → Q M' (some (.int r)))  : Cal G (d + 2) 36 [.ref (1001 + a0), .int a1, .int a2] M Q := by
  refine A_enter ml_36 rfl ?_
  refine P_aload_n d_36_0 rfl ?_
  refine A_T0 d_36_1 tk_36_492 ml_25 ha0 rfl rfl hf (fun r1 M2 hc hf => t_Str_isLatin1 hW ha0 hc (fun hW hb2 => ?_))
  refine A_if_eq (tgt := 23) d_36_4 rfl hf (fun hf => ?_) (fun hf => ?_)
  · refine P_aload_n d_36_23 rfl ?_
    refine P_getValue d_36_24 ha0 (by rw [cn_36]; exact fm_java_lang_String_9) ?_
    refine P_iload_n d_36_27 rfl ?_
    refine P_iload_n d_36_28 rfl ?_
    refine P_aload_n d_36_29 rfl ?_
    refine A_T0 d_36_30 tk_36_505 ml_37 ha0 rfl rfl hf (fun r3 M4 hc hf => t_Str_length hW ha0 hc (fun hW => ?_))
    cases hf
  · refine P_aload_n d_36_7 rfl ?_
    refine P_getValue d_36_8 ha0 (by rw [cn_36]; exact fm_java_lang_String_9) ?_
    refine P_iload_n d_36_11 rfl ?_
    refine P_iload_n d_36_12 rfl ?_
    refine P_aload_n d_36_13 rfl ?_
    refine A_T0 d_36_14 tk_36_505 ml_37 ha0 rfl rfl hf (fun r5 M6 hc hf => t_Str_length hW ha0 hc (fun hW => ?_))
    refine A_S4 d_36_17 sk_36_637 ml_39 rfl rfl hf (fun r7 M8 hc hf => t_Lat_indexOf hW ha0 hc (fun hW => ?_))
    refine P_goto (tgt := 36) d_36_20 rfl ?_
    exact A_iret d_36_36 mr_36 hW hf k
def f_Str_indexOf1 (a0 : Nat) (a1 : Int32) (M : AM) : Option (Int32 × AM) :=
  bnd (f_Str_indexOf2 a0 a1 0 M) (fun r1 M2 => some (r1, M2))
set_option maxRecDepth 20000 in
theorem t_Str_indexOf1 {G : GT} {d : Nat} {a0 : Nat} {a1 : Int32} {M : AM} {Q : AM → Option Value → Prop} {r : Int32} {M' : AM} (hW : WT M) (ha0 : a0 < 2) (hf : f_Str_indexOf1 a0 a1 M = some (r, M')) (k : WT M' → Q M' (some (.int r)))  : Cal G (d + 3) 35 [.ref (1001 + a0), .int a1] M Q := by
  refine A_enter ml_35 rfl ?_
  refine P_aload_n d_35_0 rfl ?_
  refine P_iload_n d_35_1 rfl ?_
  refine A_iconst d_35_2 ic_0 ?_
  refine A_T2 d_35_3 tk_35_633 ml_36 ha0 rfl rfl hf (fun r1 M2 hc hf => t_Str_indexOf2 hW ha0 hc (fun hW => ?_))
  exact A_iret d_35_6 mr_35 hW hf k
def f_Tokens_take (a2 : Int32) (M : AM) : Option (Int32 × AM) :=
  bnd (f_Tape_at (gI M 3 5) M) (fun r1 M2 => if 0 ≤ r1 then bnd (f_Tokens_isLetter r1 M2) (fun r3 M4 => if r3 = 0 then bnd (f_Tokens_isDigit r1 M4) (fun r5 M6 => if r5 = 0 then wI M6 3 5 ((gI M6 3 5) + 1) (fun M7 => bnd (f_Str_indexOf1 1 (((r1).toUInt32 % 65536).toInt32) M7) (fun r8 M9 => if r8 < 0 then some (1, M9) else some (r1, M9))) else bnd (f_Tokens_takeNumber a2 M6) (fun r10 M11 => some (r10, M11))) else bnd (f_Tokens_takeWord a2 M4) (fun r12 M13 => some (r12, M13))) else some (0, M2))
set_option maxRecDepth 20000 in
theorem t_Tokens_take {G : GT} {d : Nat} {a2 : Int32} {M : AM} {Q : AM → Option Value → Prop} {r : Int32} {M' : AM} (hW : WT M)  (hf : f_Tokens_take a2 M = some (r, M')) (k : WT M' → Q M' (some (.int r)))  : Cal G (d + 6) 20 [.ref 3, .ref 1, .int a2] M Q := by
  refine A_enter ml_20 rfl ?_
  refine P_aload_n d_20_0 rfl ?_
  refine P_aload_n d_20_1 rfl ?_
  refine A_gI d_20_2 cn_20 fk_CordLoft_Tokens_28 k_3 hW ?_
  refine A_V1 d_20_5 vk_20_55 ml_19 rfl k_1 hW rfl hf (fun r1 M2 hc hf => t_Tape_at hW  hc (fun hW => ?_))
  refine A_istore_n d_20_8 ml_20 rfl rfl ?_
  refine P_iload_n d_20_9 rfl ?_
  refine A_if_ge (tgt := 15) d_20_10 rfl hf (fun hf => ?_) (fun hf => ?_)
  · refine P_iload_n d_20_15 rfl ?_
    refine A_S1 d_20_16 sk_20_59 ml_21 rfl rfl hf (fun r3 M4 hc hf => t_Tokens_isLetter hW  hc (fun hW hb4 => ?_))
    refine A_if_eq (tgt := 29) d_20_19 rfl hf (fun hf => ?_) (fun hf => ?_)
    · refine P_iload_n d_20_29 rfl ?_
      refine A_S1 d_20_30 sk_20_66 ml_33 rfl rfl hf (fun r5 M6 hc hf => t_Tokens_isDigit hW  hc (fun hW hb6 => ?_))
      refine A_if_eq (tgt := 43) d_20_33 rfl hf (fun hf => ?_) (fun hf => ?_)
      · refine P_aload_n d_20_43 rfl ?_
        refine P_dup d_20_44 rfl ?_
        refine A_gI d_20_45 cn_20 fk_CordLoft_Tokens_28 k_3 hW ?_
        refine A_iconst d_20_48 ic_1 ?_
        refine P_iadd d_20_49 ?_
        refine A_pI d_20_50 cn_20 fp_CordLoft_Tokens_28 k_3 hW hf (fun hW hf => ?_)
        refine P_ldcS (i := 1) (tx := "") d_20_53 cn_20 (Or.inr ⟨rfl, rfl⟩) ?_
        refine P_iload_n d_20_55 rfl ?_
        refine P_i2c d_20_56 ?_
        refine A_T1 d_20_57 tk_20_74 ml_35 (by decide) rfl rfl hf (fun r8 M9 hc hf => t_Str_indexOf1 hW (by decide) hc (fun hW => ?_))
        refine A_if_lt (tgt := 67) d_20_60 rfl hf (fun hf => ?_) (fun hf => ?_)
        · refine A_iconst d_20_67 ic_1 ?_
          exact A_iret d_20_68 mr_20 hW hf k
        · refine P_iload_n d_20_63 rfl ?_
          refine P_goto (tgt := 68) d_20_64 rfl ?_
          exact A_iret d_20_68 mr_20 hW hf k
      · refine P_aload_n d_20_36 rfl ?_
        refine P_aload_n d_20_37 rfl ?_
        refine P_iload_n d_20_38 rfl ?_
        refine A_V2 d_20_39 vk_20_69 ml_34 rfl k_3 hW rfl hf (fun r10 M11 hc hf => t_Tokens_takeNumber hW  hc (fun hW => ?_))
        exact A_iret d_20_42 mr_20 hW hf k
    · refine P_aload_n d_20_22 rfl ?_
      refine P_aload_n d_20_23 rfl ?_
      refine P_iload_n d_20_24 rfl ?_
      refine A_V2 d_20_25 vk_20_63 ml_22 rfl k_3 hW rfl hf (fun r12 M13 hc hf => t_Tokens_takeWord hW  hc (fun hW => ?_))
      exact A_iret d_20_28 mr_20 hW hf k
  · refine A_iconst d_20_13 ic_0 ?_
    exact A_iret d_20_14 mr_20 hW hf k
def f_Tokens_scan_b14 (rec : Int32 → Int32 → AM → Option (Unit × AM))  (v2 : Int32) (v3 : Int32) (M : AM) : Option (Unit × AM) :=
  if 1600 < v3 then some ((), M) else if v2 = 0 then some ((), M) else if v2 = 1 then some ((), M) else bnd (f_Tokens_skipBlanks  M) (fun r1 M2 => ast 1601 M2 5 v3 (gI M2 3 5) (fun M3 => last' 1601 M3 6 v3 0 (fun M4 => bnd (f_Tokens_take v3 M4) (fun r5 M6 => ast 1601 M6 4 v3 r5 (fun M7 => wI M7 3 3 (v3 + 1) (fun M8 => rec r5 (v3 + 1) M8))))))
def f_Tokens_scan_l14  : Nat → Int32 → Int32 → AM → Option (Unit × AM)
  | 0, _, _, _ => none
  | n + 1, v2, v3, M => f_Tokens_scan_b14 (f_Tokens_scan_l14  n)  v2 v3 M
set_option maxRecDepth 20000 in
theorem t_Tokens_scan_b14 {G : GT} {d : Nat}  {v2 : Int32} {v3 : Int32} {M : AM} {Q : AM → Option Value → Prop} {yo : Unit} {Mo : AM} {rec : Int32 → Int32 → AM → Option (Unit × AM)} (hrec : ∀ (v2 : Int32) (v3 : Int32) (M : AM), WT M → rec v2 v3 M = some (yo, Mo) → PW G (d + 7) 17 14 [.ref 3, .ref 1, .int v2, .int v3] [] M 0 0 Q) (k1 : WT Mo → PW G (d + 7) 17 79 [.ref 3, ux, ux, ux] [] Mo 0 0 Q) (hW : WT M)   (hf : f_Tokens_scan_b14 rec  v2 v3 M = some (yo, Mo)) : PW G (d + 7) 17 14 [.ref 3, .ref 1, .int v2, .int v3] [] M 0 0 Q := by
  refine P_iload_n d_17_14 rfl ?_
  refine P_sipush d_17_15 si_1600 ?_
  refine A_icmp_gt (tgt := 79) d_17_18 rfl hf (fun hf => ?_) (fun hf => ?_)
  · refine P_fgt [true, false, false, false] ?_
    cases hf
    exact k1 hW 
  · refine P_iload_n d_17_21 rfl ?_
    refine A_if_eq (tgt := 79) d_17_22 rfl hf (fun hf => ?_) (fun hf => ?_)
    · refine P_fgt [true, false, false, false] ?_
      cases hf
      exact k1 hW 
    · refine P_iload_n d_17_25 rfl ?_
      refine A_iconst d_17_26 ic_1 ?_
      refine A_icmp_eq (tgt := 79) d_17_27 rfl hf (fun hf => ?_) (fun hf => ?_)
      · refine P_fgt [true, false, false, false] ?_
        cases hf
        exact k1 hW 
      · refine P_aload_n d_17_30 rfl ?_
        refine P_aload_n d_17_31 rfl ?_
        refine A_V1 d_17_32 vk_17_31 ml_18 rfl k_3 hW rfl hf (fun r1 M2 hc hf => t_Tokens_skipBlanks hW  hc (fun hW => ?_))
        refine P_aload_n d_17_35 rfl ?_
        refine A_gF d_17_36 cn_17 fk_CordLoft_Tokens_17 ft_11_1 k_3 hW ?_
        refine P_iload_n d_17_39 rfl ?_
        refine P_aload_n d_17_40 rfl ?_
        refine A_gI d_17_41 cn_17 fk_CordLoft_Tokens_28 k_3 hW ?_
        refine A_iast d_17_44 k_5 l_5 hW hf (fun hW hf => ?_)
        refine P_aload_n d_17_45 rfl ?_
        refine A_gF d_17_46 cn_17 fk_CordLoft_Tokens_20 ft_11_2 k_3 hW ?_
        refine P_iload_n d_17_49 rfl ?_
        refine P_lconst d_17_50 lc_0 ?_
        refine A_last d_17_51 k_6 l_6 hW hf (fun hW hf => ?_)
        refine P_aload_n d_17_52 rfl ?_
        refine P_aload_n d_17_53 rfl ?_
        refine P_iload_n d_17_54 rfl ?_
        refine A_V2 d_17_55 vk_17_35 ml_20 rfl k_3 hW rfl hf (fun r5 M6 hc hf => t_Tokens_take hW  hc (fun hW => ?_))
        refine A_istore_n d_17_58 ml_17 rfl rfl ?_
        refine P_aload_n d_17_59 rfl ?_
        refine A_gF d_17_60 cn_17 fk_CordLoft_Tokens_11 ft_11_0 k_3 hW ?_
        refine P_iload_n d_17_63 rfl ?_
        refine P_iload_n d_17_64 rfl ?_
        refine A_iast d_17_65 k_4 l_4 hW hf (fun hW hf => ?_)
        refine P_aload_n d_17_66 rfl ?_
        refine P_iload_n d_17_67 rfl ?_
        refine A_iconst d_17_68 ic_1 ?_
        refine P_iadd d_17_69 ?_
        refine A_pI d_17_70 cn_17 fp_CordLoft_Tokens_24 k_3 hW hf (fun hW hf => ?_)
        refine A_iinc d_17_73 ic_1 rfl ml_17 rfl rfl ?_
        refine P_goto (tgt := 14) d_17_76 rfl ?_
        exact hrec _ _ _ hW  hf
theorem t_Tokens_scan_l14 {G : GT} {d : Nat}  {Q : AM → Option Value → Prop} {yo : Unit} {Mo : AM} (k1 : WT Mo → PW G (d + 7) 17 79 [.ref 3, ux, ux, ux] [] Mo 0 0 Q)  : ∀ (z : Nat) (v2 : Int32) (v3 : Int32) (M : AM), WT M → f_Tokens_scan_l14  z v2 v3 M = some (yo, Mo) → PW G (d + 7) 17 14 [.ref 3, .ref 1, .int v2, .int v3] [] M 0 0 Q := by
  intro z
  induction z with
  | zero => intro v2 v3 M hW hf; cases hf
  | succ z ih => intro v2 v3 M hW hf; exact t_Tokens_scan_b14 (fun v2 v3 M hW hf => ih v2 v3 M hW hf) k1 hW   hf
def f_Tokens_scan  (M : AM) : Option (Unit × AM) :=
  wI M 3 3 0 (fun M1 => wI M1 3 5 0 (fun M2 => bnd (f_Tokens_scan_l14  fu 2 0 M2) (fun y3 M4 => wI M4 3 4 (-1) (fun M5 => bnd (f_Tokens_step  M5) (fun r6 M7 => some ((), M7))))))
set_option maxRecDepth 20000 in
theorem t_Tokens_scan {G : GT} {d : Nat}  {M : AM} {Q : AM → Option Value → Prop} {r : Unit} {M' : AM} (hW : WT M)  (hf : f_Tokens_scan  M = some (r, M')) (k : WT M' → Q M' none)  : Cal G (d + 7) 17 [.ref 3, .ref 1] M Q := by
  refine A_enter ml_17 rfl ?_
  refine P_aload_n d_17_0 rfl ?_
  refine A_iconst d_17_1 ic_0 ?_
  refine A_pI d_17_2 cn_17 fp_CordLoft_Tokens_24 k_3 hW hf (fun hW hf => ?_)
  refine P_aload_n d_17_5 rfl ?_
  refine A_iconst d_17_6 ic_0 ?_
  refine A_pI d_17_7 cn_17 fp_CordLoft_Tokens_28 k_3 hW hf (fun hW hf => ?_)
  refine A_iconst d_17_10 ic_2 ?_
  refine A_istore_n d_17_11 ml_17 rfl rfl ?_
  refine A_iconst d_17_12 ic_0 ?_
  refine A_istore_n d_17_13 ml_17 rfl rfl ?_
  obtain ⟨y3, M4, hl, hf⟩ := bnd_some hf
  refine t_Tokens_scan_l14 (fun hW => ?_)  fu _ _ _ hW  hl
  refine P_aload_n d_17_79 rfl ?_
  refine A_iconst d_17_80 ic_m1 ?_
  refine A_pI d_17_81 cn_17 fp_CordLoft_Tokens_39 k_3 hW hf (fun hW hf => ?_)
  refine P_aload_n d_17_84 rfl ?_
  refine A_V0 d_17_85 vk_17_42 ml_54 rfl k_3 hW rfl hf (fun r6 M7 hc hf => t_Tokens_step hW  hc (fun hW => ?_))
  exact A_ret d_17_88 mr_17 hW hf k
def f_Form_clear (a0 : Nat) (M : AM) : Option (Unit × AM) :=
  wI M a0 1 0 (fun M1 => wI M1 a0 4 0 (fun M2 => some ((), M2)))
set_option maxRecDepth 20000 in
theorem t_Form_clear {G : GT} {d : Nat} {a0 : Nat} {M : AM} {Q : AM → Option Value → Prop} {r : Unit} {M' : AM} (hW : WT M) (ha0 : kd0 a0 = 3) (hf : f_Form_clear a0 M = some (r, M')) (k : WT M' → Q M' none)  : Cal G d 57 [.ref a0] M Q := by
  refine A_enter ml_57 rfl ?_
  refine P_aload_n d_57_0 rfl ?_
  refine A_iconst d_57_1 ic_0 ?_
  refine A_pI d_57_2 cn_57 fp_CordLoft_Formula_19 ha0 hW hf (fun hW hf => ?_)
  refine P_aload_n d_57_5 rfl ?_
  refine A_iconst d_57_6 ic_0 ?_
  refine A_pI d_57_7 cn_57 fp_CordLoft_Formula_23 ha0 hW hf (fun hW hf => ?_)
  exact A_ret d_57_10 mr_57 hW hf k
def f_Plan_clear (a0 : Nat) (M : AM) : Option (Unit × AM) :=
  wI M a0 0 0 (fun M1 => wI M1 a0 1 0 (fun M2 => wI M2 a0 6 0 (fun M3 => bnd (f_Form_clear (a0 + 9) M3) (fun r4 M5 => wI M5 a0 14 0 (fun M6 => wI M6 a0 15 0 (fun M7 => wI M7 a0 16 0 (fun M8 => some ((), M8))))))))
set_option maxRecDepth 20000 in
theorem t_Plan_clear {G : GT} {d : Nat} {a0 : Nat} {M : AM} {Q : AM → Option Value → Prop} {r : Unit} {M' : AM} (hW : WT M) (ha0 : kd0 a0 = 5) (hf : f_Plan_clear a0 M = some (r, M')) (k : WT M' → Q M' none)  : Cal G (d + 1) 56 [.ref a0] M Q := by
  refine A_enter ml_56 rfl ?_
  refine P_aload_n d_56_0 rfl ?_
  refine A_iconst d_56_1 ic_0 ?_
  refine A_pI d_56_2 cn_56 fp_CordLoft_Plan_51 ha0 hW hf (fun hW hf => ?_)
  refine P_aload_n d_56_5 rfl ?_
  refine A_iconst d_56_6 ic_0 ?_
  refine A_pI d_56_7 cn_56 fp_CordLoft_Plan_55 ha0 hW hf (fun hW hf => ?_)
  refine P_aload_n d_56_10 rfl ?_
  refine A_iconst d_56_11 ic_0 ?_
  refine A_pI d_56_12 cn_56 fp_CordLoft_Plan_58 ha0 hW hf (fun hW hf => ?_)
  refine P_aload_n d_56_15 rfl ?_
  refine A_gFr d_56_16 cn_56 fk_CordLoft_Plan_40 ft_5_11 ha0 hW ?_
  refine A_V0 d_56_19 vk_56_61 ml_57 rfl (kr_5_9 ha0) hW rfl hf (fun r4 M5 hc hf => t_Form_clear hW (kr_5_9 ha0) hc (fun hW => ?_))
  refine P_aload_n d_56_22 rfl ?_
  refine A_iconst d_56_23 ic_0 ?_
  refine A_pI d_56_24 cn_56 fp_CordLoft_Plan_64 ha0 hW hf (fun hW hf => ?_)
  refine P_aload_n d_56_27 rfl ?_
  refine A_iconst d_56_28 ic_0 ?_
  refine A_pI d_56_29 cn_56 fp_CordLoft_Plan_67 ha0 hW hf (fun hW hf => ?_)
  refine P_aload_n d_56_32 rfl ?_
  refine A_iconst d_56_33 ic_0 ?_
  refine A_pI d_56_34 cn_56 fp_CordLoft_Plan_70 ha0 hW hf (fun hW hf => ?_)
  exact A_ret d_56_37 mr_56 hW hf k
def f_Plan_lampNamed_b2 (rec : Int32 → AM → Option ((Unit × AM) ⊕ (Int32 × AM))) (v0 : Nat) (v1 : Int64) (v3 : Int32) (M : AM) : Option ((Unit × AM) ⊕ (Int32 × AM)) :=
  if (gI M v0 0) ≤ v3 then some (.inl ((), M)) else lald 8 M (v0 + 1) v3 (fun x1 => if (lg_cmp x1 v1) = 0 then some (.inr (v3, M)) else rec (v3 + 1) M)
def f_Plan_lampNamed_l2 (v0 : Nat) (v1 : Int64) : Nat → Int32 → AM → Option ((Unit × AM) ⊕ (Int32 × AM))
  | 0, _, _ => none
  | n + 1, v3, M => f_Plan_lampNamed_b2 (f_Plan_lampNamed_l2 v0 v1 n) v0 v1 v3 M
set_option maxRecDepth 20000 in
theorem t_Plan_lampNamed_b2 {G : GT} {d : Nat} {v0 : Nat} {v1 : Int64} {v3 : Int32} {M : AM} {Q : AM → Option Value → Prop} {o : (Unit × AM) ⊕ (Int32 × AM)} {rec : Int32 → AM → Option ((Unit × AM) ⊕ (Int32 × AM))} (hrec : ∀ (v3 : Int32) (M : AM), WT M → rec v3 M = some o → PW G d 61 2 [.ref v0, .long v1, ux, .int v3] [] M 0 0 Q) (k1 : ∀ (yo : Unit) (Mo : AM), o = .inl (yo, Mo) → WT Mo → PW G d 61 29 [ux, ux, ux, ux] [] Mo 0 0 Q) (k2 : ∀ (r : Int32) (M' : AM), o = .inr (r, M') → WT M' → Q M' (some (.int r))) (hW : WT M) (hv0 : kd0 v0 = 5)  (hf : f_Plan_lampNamed_b2 rec v0 v1 v3 M = some o) : PW G d 61 2 [.ref v0, .long v1, ux, .int v3] [] M 0 0 Q := by
  refine P_iload_n d_61_2 rfl ?_
  refine P_aload_n d_61_3 rfl ?_
  refine A_gI d_61_4 cn_61 fk_CordLoft_Plan_51 hv0 hW ?_
  refine A_icmp_ge (tgt := 29) d_61_7 rfl hf (fun hf => ?_) (fun hf => ?_)
  · refine P_fgt [false, false, false, false] ?_
    cases hf
    exact k1 _ _ rfl hW 
  · refine P_aload_n d_61_10 rfl ?_
    refine A_gFr d_61_11 cn_61 fk_CordLoft_Plan_11 ft_5_2 hv0 hW ?_
    refine P_iload_n d_61_14 rfl ?_
    refine A_lald d_61_15 (kr_5_1 hv0) (lr_5_1 hv0) hW hf (fun hf => ?_)
    refine P_lload_n d_61_16 rfl ?_
    refine P_lcmp d_61_17 ?_
    refine A_if_ne (tgt := 23) d_61_18 rfl hf (fun hf => ?_) (fun hf => ?_)
    · refine A_iinc d_61_23 ic_1 rfl ml_61 rfl rfl ?_
      refine P_goto (tgt := 2) d_61_26 rfl ?_
      exact hrec _ _ hW  hf
    · refine P_iload_n d_61_21 rfl ?_
      cases hf
      exact A_iret d_61_22 mr_61 hW rfl (fun hW => k2 _ _ rfl hW)
theorem t_Plan_lampNamed_l2 {G : GT} {d : Nat} {v0 : Nat} {v1 : Int64} {Q : AM → Option Value → Prop} {o : (Unit × AM) ⊕ (Int32 × AM)} (k1 : ∀ (yo : Unit) (Mo : AM), o = .inl (yo, Mo) → WT Mo → PW G d 61 29 [ux, ux, ux, ux] [] Mo 0 0 Q) (k2 : ∀ (r : Int32) (M' : AM), o = .inr (r, M') → WT M' → Q M' (some (.int r))) (hv0 : kd0 v0 = 5) : ∀ (z : Nat) (v3 : Int32) (M : AM), WT M → f_Plan_lampNamed_l2 v0 v1 z v3 M = some o → PW G d 61 2 [.ref v0, .long v1, ux, .int v3] [] M 0 0 Q := by
  intro z
  induction z with
  | zero => intro v3 M hW hf; cases hf
  | succ z ih => intro v3 M hW hf; exact t_Plan_lampNamed_b2 (fun v3 M hW hf => ih v3 M hW hf) k1 k2 hW hv0  hf
def f_Plan_lampNamed (a0 : Nat) (a1 : Int64) (M : AM) : Option (Int32 × AM) :=
  bn2 (f_Plan_lampNamed_l2 a0 a1 fu 0 M) (fun y1 M2 => some ((-1), M2))
set_option maxRecDepth 20000 in
theorem t_Plan_lampNamed {G : GT} {d : Nat} {a0 : Nat} {a1 : Int64} {M : AM} {Q : AM → Option Value → Prop} {r : Int32} {M' : AM} (hW : WT M) (ha0 : kd0 a0 = 5) (hf : f_Plan_lampNamed a0 a1 M = some (r, M')) (k : WT M' → Q M' (some (.int r)))  : Cal G d 61 [.ref a0, .long a1] M Q := by
  refine A_enter ml_61 rfl ?_
  refine A_iconst d_61_0 ic_0 ?_
  refine A_istore_n d_61_1 ml_61 rfl rfl ?_
  obtain ⟨o, hl, hf⟩ := bn2_some hf
  refine t_Plan_lampNamed_l2 (o := o) (fun y1 M2 e hW => ?_) (fun r1 Mr e hW => ?_) ha0 fu _ _ hW  hl
  · subst e
    change _ = some (r, M') at hf
    refine A_iconst d_61_29 ic_m1 ?_
    exact A_iret d_61_30 mr_61 hW hf k
  · subst e; cases hf; exact k hW
def f_Plan_addLamp (a0 : Nat) (a1 : Int64) (M : AM) : Option (Int32 × AM) :=
  if 8 ≤ (gI M a0 0) then some (gI M a0 0, M) else last' 8 M (a0 + 1) (gI M a0 0) a1 (fun M1 => ast 8 M1 (a0 + 2) (gI M a0 0) 1 (fun M2 => ast 8 M2 (a0 + 3) (gI M a0 0) 0 (fun M3 => ast 8 M3 (a0 + 4) (gI M a0 0) 0 (fun M4 => wI M4 a0 0 ((gI M4 a0 0) + 1) (fun M5 => some (gI M a0 0, M5))))))
set_option maxRecDepth 20000 in
theorem t_Plan_addLamp {G : GT} {d : Nat} {a0 : Nat} {a1 : Int64} {M : AM} {Q : AM → Option Value → Prop} {r : Int32} {M' : AM} (hW : WT M) (ha0 : kd0 a0 = 5) (hf : f_Plan_addLamp a0 a1 M = some (r, M')) (k : WT M' → Q M' (some (.int r)))  : Cal G d 62 [.ref a0, .long a1] M Q := by
  refine A_enter ml_62 rfl ?_
  refine P_aload_n d_62_0 rfl ?_
  refine A_gI d_62_1 cn_62 fk_CordLoft_Plan_51 ha0 hW ?_
  refine A_istore_n d_62_4 ml_62 rfl rfl ?_
  refine P_iload_n d_62_5 rfl ?_
  refine P_bipush d_62_6 bi_8 ?_
  refine A_icmp_ge (tgt := 49) d_62_8 rfl hf (fun hf => ?_) (fun hf => ?_)
  · refine P_iload_n d_62_49 rfl ?_
    exact A_iret d_62_50 mr_62 hW hf k
  · refine P_aload_n d_62_11 rfl ?_
    refine A_gFr d_62_12 cn_62 fk_CordLoft_Plan_11 ft_5_2 ha0 hW ?_
    refine P_iload_n d_62_15 rfl ?_
    refine P_lload_n d_62_16 rfl ?_
    refine A_last d_62_17 (kr_5_1 ha0) (lr_5_1 ha0) hW hf (fun hW hf => ?_)
    refine P_aload_n d_62_18 rfl ?_
    refine A_gFr d_62_19 cn_62 fk_CordLoft_Plan_15 ft_5_3 ha0 hW ?_
    refine P_iload_n d_62_22 rfl ?_
    refine A_iconst d_62_23 ic_1 ?_
    refine A_iast d_62_24 (kr_5_2 ha0) (lr_5_2 ha0) hW hf (fun hW hf => ?_)
    refine P_aload_n d_62_25 rfl ?_
    refine A_gFr d_62_26 cn_62 fk_CordLoft_Plan_19 ft_5_4 ha0 hW ?_
    refine P_iload_n d_62_29 rfl ?_
    refine A_iconst d_62_30 ic_0 ?_
    refine A_iast d_62_31 (kr_5_3 ha0) (lr_5_3 ha0) hW hf (fun hW hf => ?_)
    refine P_aload_n d_62_32 rfl ?_
    refine A_gFr d_62_33 cn_62 fk_CordLoft_Plan_22 ft_5_5 ha0 hW ?_
    refine P_iload_n d_62_36 rfl ?_
    refine A_iconst d_62_37 ic_0 ?_
    refine A_iast d_62_38 (kr_5_4 ha0) (lr_5_4 ha0) hW hf (fun hW hf => ?_)
    refine P_aload_n d_62_39 rfl ?_
    refine P_dup d_62_40 rfl ?_
    refine A_gI d_62_41 cn_62 fk_CordLoft_Plan_51 ha0 hW ?_
    refine A_iconst d_62_44 ic_1 ?_
    refine P_iadd d_62_45 ?_
    refine A_pI d_62_46 cn_62 fp_CordLoft_Plan_51 ha0 hW hf (fun hW hf => ?_)
    refine P_iload_n d_62_49 rfl ?_
    exact A_iret d_62_50 mr_62 hW hf k
def f_Reader_readNumber (a1 : Int32) (M : AM) : Option (Int32 × AM) :=
  if (gI M 3 6) = 3 then if (lg_cmp (gL M 3 8) ((a1).toInt64)) ≤ 0 then wI M 7 3 ((gL M 3 8).toInt32) (fun M1 => bnd (f_Tokens_step  M1) (fun r2 M3 => some (1, M3))) else bnd (f_Reader_refuse 4 M) (fun r4 M5 => some (r4, M5)) else bnd (f_Reader_refuse 2 M) (fun r6 M7 => some (r6, M7))
set_option maxRecDepth 20000 in
theorem t_Reader_readNumber {G : GT} {d : Nat} {a1 : Int32} {M : AM} {Q : AM → Option Value → Prop} {r : Int32} {M' : AM} (hW : WT M)  (hf : f_Reader_readNumber a1 M = some (r, M')) (k : WT M' → (r = 0 ∨ r = 1) → Q M' (some (.int r)))  : Cal G (d + 1) 63 [.ref 7, .int a1] M Q := by
  refine A_enter ml_63 rfl ?_
  refine P_aload_n d_63_0 rfl ?_
  refine A_gF d_63_1 cn_63 fk_CordLoft_Reader_9 ft_6_0 k_7 hW ?_
  refine A_gI d_63_4 cn_63 fk_CordLoft_Reader_36 k_3 hW ?_
  refine A_iconst d_63_7 ic_3 ?_
  refine A_icmp_eq (tgt := 17) d_63_8 rfl hf (fun hf => ?_) (fun hf => ?_)
  · refine P_aload_n d_63_17 rfl ?_
    refine A_gF d_63_18 cn_63 fk_CordLoft_Reader_9 ft_6_0 k_7 hW ?_
    refine A_gL d_63_21 cn_63 fk_CordLoft_Reader_92 k_3 hW ?_
    refine P_iload_n d_63_24 rfl ?_
    refine P_i2l d_63_25 ?_
    refine P_lcmp d_63_26 ?_
    refine A_if_le (tgt := 36) d_63_27 rfl hf (fun hf => ?_) (fun hf => ?_)
    · refine P_aload_n d_63_36 rfl ?_
      refine P_aload_n d_63_37 rfl ?_
      refine A_gF d_63_38 cn_63 fk_CordLoft_Reader_9 ft_6_0 k_7 hW ?_
      refine A_gL d_63_41 cn_63 fk_CordLoft_Reader_92 k_3 hW ?_
      refine P_l2i d_63_44 ?_
      refine A_pI d_63_45 cn_63 fp_CordLoft_Reader_68 k_7 hW hf (fun hW hf => ?_)
      refine P_aload_n d_63_48 rfl ?_
      refine A_gF d_63_49 cn_63 fk_CordLoft_Reader_9 ft_6_0 k_7 hW ?_
      refine A_V0 d_63_52 vk_63_89 ml_54 rfl k_3 hW rfl hf (fun r2 M3 hc hf => t_Tokens_step hW  hc (fun hW => ?_))
      refine A_iconst d_63_55 ic_1 ?_
      exact A_zret d_63_56 mr_63 hW (Or.inr rfl) hf k
    · refine P_aload_n d_63_30 rfl ?_
      refine A_iconst d_63_31 ic_4 ?_
      refine A_V1 d_63_32 vk_63_80 ml_60 rfl k_7 hW rfl hf (fun r4 M5 hc hf => t_Reader_refuse hW  hc (fun hW hb5 => ?_))
      exact A_zret d_63_35 mr_63 hW hb5 hf k
  · refine P_aload_n d_63_11 rfl ?_
    refine A_iconst d_63_12 ic_2 ?_
    refine A_V1 d_63_13 vk_63_80 ml_60 rfl k_7 hW rfl hf (fun r6 M7 hc hf => t_Reader_refuse hW  hc (fun hW hb7 => ?_))
    exact A_zret d_63_16 mr_63 hW hb7 hf k
def f_Reader_readLamp_j122 (v1 : Int32) (M : AM) : Option (Int32 × AM) :=
  if (gI M 3 6) = 144 then bnd (f_Tokens_step  M) (fun r1 M2 => bnd (f_Reader_readNumber 99 M2) (fun r3 M4 => if r3 = 0 then some (0, M4) else ckK (gR M4 7 1) 5 (ast 8 M4 ((gR M4 7 1) + 2) v1 (gI M4 7 3) (fun M6 => some (1, M6))))) else some (1, M)
set_option maxRecDepth 20000 in
theorem t_Reader_readLamp_j122 {G : GT} {d : Nat} {v1 : Int32} {M : AM} {Q : AM → Option Value → Prop} {r : Int32} {M' : AM} (k : WT M' → (r = 0 ∨ r = 1) → Q M' (some (.int r))) (hW : WT M)  (hf : f_Reader_readLamp_j122 v1 M = some (r, M')) : PW G (d + 2) 59 122 [.ref 7, .int v1] [] M 0 0 Q := by
  refine P_aload_n d_59_122 rfl ?_
  refine A_gF d_59_123 cn_59 fk_CordLoft_Reader_9 ft_6_0 k_7 hW ?_
  refine A_gI d_59_126 cn_59 fk_CordLoft_Reader_36 k_3 hW ?_
  refine P_sipush d_59_129 si_144 ?_
  refine A_icmp_ne (tgt := 166) d_59_132 rfl hf (fun hf => ?_) (fun hf => ?_)
  · refine A_iconst d_59_166 ic_1 ?_
    exact A_zret d_59_167 mr_59 hW (Or.inr rfl) hf k
  · refine P_aload_n d_59_135 rfl ?_
    refine A_gF d_59_136 cn_59 fk_CordLoft_Reader_9 ft_6_0 k_7 hW ?_
    refine A_V0 d_59_139 vk_59_89 ml_54 rfl k_3 hW rfl hf (fun r1 M2 hc hf => t_Tokens_step hW  hc (fun hW => ?_))
    refine P_aload_n d_59_142 rfl ?_
    refine P_bipush d_59_143 bi_99 ?_
    refine A_V1 d_59_145 vk_59_64 ml_63 rfl k_7 hW rfl hf (fun r3 M4 hc hf => t_Reader_readNumber hW  hc (fun hW hb4 => ?_))
    refine A_if_ne (tgt := 153) d_59_148 rfl hf (fun hf => ?_) (fun hf => ?_)
    · refine P_aload_n d_59_153 rfl ?_
      refine A_gM d_59_154 cn_59 fk_CordLoft_Reader_15 k_7 hW hf (fun hk5 hf => ?_)
      refine A_gFr d_59_157 cn_59 fk_CordLoft_Reader_106 ft_5_3 hk5 hW ?_
      refine P_iload_n d_59_160 rfl ?_
      refine P_aload_n d_59_161 rfl ?_
      refine A_gI d_59_162 cn_59 fk_CordLoft_Reader_68 k_7 hW ?_
      refine A_iast d_59_165 (kr_5_2 hk5) (lr_5_2 hk5) hW hf (fun hW hf => ?_)
      refine A_iconst d_59_166 ic_1 ?_
      exact A_zret d_59_167 mr_59 hW (Or.inr rfl) hf k
    · refine A_iconst d_59_151 ic_0 ?_
      exact A_zret d_59_152 mr_59 hW (Or.inl rfl) hf k
def f_Reader_readLamp  (M : AM) : Option (Int32 × AM) :=
  ckK (gR M 7 1) 5 (if (gI M (gR M 7 1) 0) < 8 then bnd (f_Tokens_step  M) (fun r2 M3 => if (gI M3 3 6) = 2 then ckK (gR M3 7 1) 5 (bnd (f_Plan_lampNamed (gR M3 7 1) (gL M3 3 8) M3) (fun r5 M6 => if r5 < 0 then ckK (gR M6 7 1) 5 (bnd (f_Plan_addLamp (gR M6 7 1) (gL M6 3 8) M6) (fun r8 M9 => bnd (f_Tokens_step  M9) (fun r10 M11 => if (gI M11 3 6) = 140 then ckK (gR M11 7 1) 5 (wI M11 (gR M11 7 1) 1 ((gI M11 (gR M11 7 1) 1) ||| ((1 : Int32) <<< (r8 &&& 31))) (fun M13 => bnd (f_Tokens_step  M13) (fun r14 M15 => f_Reader_readLamp_j122 r8 M15))) else f_Reader_readLamp_j122 r8 M11))) else bnd (f_Reader_refuse 3 M6) (fun r16 M17 => some (r16, M17)))) else bnd (f_Reader_refuse 2 M3) (fun r18 M19 => some (r18, M19))) else bnd (f_Reader_refuse 2 M) (fun r20 M21 => some (r20, M21)))
set_option maxRecDepth 20000 in
theorem t_Reader_readLamp {G : GT} {d : Nat}  {M : AM} {Q : AM → Option Value → Prop} {r : Int32} {M' : AM} (hW : WT M)  (hf : f_Reader_readLamp  M = some (r, M')) (k : WT M' → (r = 0 ∨ r = 1) → Q M' (some (.int r)))  : Cal G (d + 2) 59 [.ref 7] M Q := by
  refine A_enter ml_59 rfl ?_
  refine P_aload_n d_59_0 rfl ?_
  refine A_gM d_59_1 cn_59 fk_CordLoft_Reader_15 k_7 hW hf (fun hk1 hf => ?_)
  refine A_gI d_59_4 cn_59 fk_CordLoft_Reader_86 hk1 hW ?_
  refine P_bipush d_59_7 bi_8 ?_
  refine A_icmp_lt (tgt := 18) d_59_9 rfl hf (fun hf => ?_) (fun hf => ?_)
  · refine P_aload_n d_59_18 rfl ?_
    refine A_gF d_59_19 cn_59 fk_CordLoft_Reader_9 ft_6_0 k_7 hW ?_
    refine A_V0 d_59_22 vk_59_89 ml_54 rfl k_3 hW rfl hf (fun r2 M3 hc hf => t_Tokens_step hW  hc (fun hW => ?_))
    refine P_aload_n d_59_25 rfl ?_
    refine A_gF d_59_26 cn_59 fk_CordLoft_Reader_9 ft_6_0 k_7 hW ?_
    refine A_gI d_59_29 cn_59 fk_CordLoft_Reader_36 k_3 hW ?_
    refine A_iconst d_59_32 ic_2 ?_
    refine A_icmp_eq (tgt := 42) d_59_33 rfl hf (fun hf => ?_) (fun hf => ?_)
    · refine P_aload_n d_59_42 rfl ?_
      refine A_gM d_59_43 cn_59 fk_CordLoft_Reader_15 k_7 hW hf (fun hk4 hf => ?_)
      refine P_aload_n d_59_46 rfl ?_
      refine A_gF d_59_47 cn_59 fk_CordLoft_Reader_9 ft_6_0 k_7 hW ?_
      refine A_gL d_59_50 cn_59 fk_CordLoft_Reader_92 k_3 hW ?_
      refine A_V1 d_59_53 vk_59_96 ml_61 rfl hk4 hW rfl hf (fun r5 M6 hc hf => t_Plan_lampNamed hW hk4 hc (fun hW => ?_))
      refine A_if_lt (tgt := 65) d_59_56 rfl hf (fun hf => ?_) (fun hf => ?_)
      · refine P_aload_n d_59_65 rfl ?_
        refine A_gM d_59_66 cn_59 fk_CordLoft_Reader_15 k_7 hW hf (fun hk7 hf => ?_)
        refine P_aload_n d_59_69 rfl ?_
        refine A_gF d_59_70 cn_59 fk_CordLoft_Reader_9 ft_6_0 k_7 hW ?_
        refine A_gL d_59_73 cn_59 fk_CordLoft_Reader_92 k_3 hW ?_
        refine A_V1 d_59_76 vk_59_100 ml_62 rfl hk7 hW rfl hf (fun r8 M9 hc hf => t_Plan_addLamp hW hk7 hc (fun hW => ?_))
        refine A_istore_n d_59_79 ml_59 rfl rfl ?_
        refine P_aload_n d_59_80 rfl ?_
        refine A_gF d_59_81 cn_59 fk_CordLoft_Reader_9 ft_6_0 k_7 hW ?_
        refine A_V0 d_59_84 vk_59_89 ml_54 rfl k_3 hW rfl hf (fun r10 M11 hc hf => t_Tokens_step hW  hc (fun hW => ?_))
        refine P_aload_n d_59_87 rfl ?_
        refine A_gF d_59_88 cn_59 fk_CordLoft_Reader_9 ft_6_0 k_7 hW ?_
        refine A_gI d_59_91 cn_59 fk_CordLoft_Reader_36 k_3 hW ?_
        refine P_sipush d_59_94 si_140 ?_
        refine A_icmp_ne (tgt := 122) d_59_97 rfl hf (fun hf => ?_) (fun hf => ?_)
        · exact t_Reader_readLamp_j122 k hW  hf
        · refine P_aload_n d_59_100 rfl ?_
          refine A_gM d_59_101 cn_59 fk_CordLoft_Reader_15 k_7 hW hf (fun hk12 hf => ?_)
          refine P_dup d_59_104 rfl ?_
          refine A_gI d_59_105 cn_59 fk_CordLoft_Reader_103 hk12 hW ?_
          refine A_iconst d_59_108 ic_1 ?_
          refine P_iload_n d_59_109 rfl ?_
          refine P_ishl d_59_110 ?_
          refine P_ior d_59_111 ?_
          refine A_pI d_59_112 cn_59 fp_CordLoft_Reader_103 hk12 hW hf (fun hW hf => ?_)
          refine P_aload_n d_59_115 rfl ?_
          refine A_gF d_59_116 cn_59 fk_CordLoft_Reader_9 ft_6_0 k_7 hW ?_
          refine A_V0 d_59_119 vk_59_89 ml_54 rfl k_3 hW rfl hf (fun r14 M15 hc hf => t_Tokens_step hW  hc (fun hW => ?_))
          exact t_Reader_readLamp_j122 k hW  hf
      · refine P_aload_n d_59_59 rfl ?_
        refine A_iconst d_59_60 ic_3 ?_
        refine A_V1 d_59_61 vk_59_80 ml_60 rfl k_7 hW rfl hf (fun r16 M17 hc hf => t_Reader_refuse hW  hc (fun hW hb17 => ?_))
        exact A_zret d_59_64 mr_59 hW hb17 hf k
    · refine P_aload_n d_59_36 rfl ?_
      refine A_iconst d_59_37 ic_2 ?_
      refine A_V1 d_59_38 vk_59_80 ml_60 rfl k_7 hW rfl hf (fun r18 M19 hc hf => t_Reader_refuse hW  hc (fun hW hb19 => ?_))
      exact A_zret d_59_41 mr_59 hW hb19 hf k
  · refine P_aload_n d_59_12 rfl ?_
    refine A_iconst d_59_13 ic_2 ?_
    refine A_V1 d_59_14 vk_59_80 ml_60 rfl k_7 hW rfl hf (fun r20 M21 hc hf => t_Reader_refuse hW  hc (fun hW hb21 => ?_))
    exact A_zret d_59_17 mr_59 hW hb21 hf k
def f_Plan_hasCordNamed_b2 (rec : Int32 → AM → Option ((Unit × AM) ⊕ (Int32 × AM))) (v0 : Nat) (v1 : Int64) (v3 : Int32) (M : AM) : Option ((Unit × AM) ⊕ (Int32 × AM)) :=
  if (gI M v0 6) ≤ v3 then some (.inl ((), M)) else lald 8 M (v0 + 5) v3 (fun x1 => if (lg_cmp x1 v1) = 0 then some (.inr (1, M)) else rec (v3 + 1) M)
def f_Plan_hasCordNamed_l2 (v0 : Nat) (v1 : Int64) : Nat → Int32 → AM → Option ((Unit × AM) ⊕ (Int32 × AM))
  | 0, _, _ => none
  | n + 1, v3, M => f_Plan_hasCordNamed_b2 (f_Plan_hasCordNamed_l2 v0 v1 n) v0 v1 v3 M
set_option maxRecDepth 20000 in
theorem t_Plan_hasCordNamed_b2 {G : GT} {d : Nat} {v0 : Nat} {v1 : Int64} {v3 : Int32} {M : AM} {Q : AM → Option Value → Prop} {o : (Unit × AM) ⊕ (Int32 × AM)} {rec : Int32 → AM → Option ((Unit × AM) ⊕ (Int32 × AM))} (hrec : ∀ (v3 : Int32) (M : AM), WT M → rec v3 M = some o → PW G d 65 2 [.ref v0, .long v1, ux, .int v3] [] M 0 0 Q) (k1 : ∀ (yo : Unit) (Mo : AM), o = .inl (yo, Mo) → WT Mo → PW G d 65 29 [ux, ux, ux, ux] [] Mo 0 0 Q) (k2 : ∀ (r : Int32) (M' : AM), o = .inr (r, M') → WT M' → (r = 0 ∨ r = 1) → Q M' (some (.int r))) (hW : WT M) (hv0 : kd0 v0 = 5)  (hf : f_Plan_hasCordNamed_b2 rec v0 v1 v3 M = some o) : PW G d 65 2 [.ref v0, .long v1, ux, .int v3] [] M 0 0 Q := by
  refine P_iload_n d_65_2 rfl ?_
  refine P_aload_n d_65_3 rfl ?_
  refine A_gI d_65_4 cn_65 fk_CordLoft_Plan_58 hv0 hW ?_
  refine A_icmp_ge (tgt := 29) d_65_7 rfl hf (fun hf => ?_) (fun hf => ?_)
  · refine P_fgt [false, false, false, false] ?_
    cases hf
    exact k1 _ _ rfl hW 
  · refine P_aload_n d_65_10 rfl ?_
    refine A_gFr d_65_11 cn_65 fk_CordLoft_Plan_25 ft_5_7 hv0 hW ?_
    refine P_iload_n d_65_14 rfl ?_
    refine A_lald d_65_15 (kr_5_5 hv0) (lr_5_5 hv0) hW hf (fun hf => ?_)
    refine P_lload_n d_65_16 rfl ?_
    refine P_lcmp d_65_17 ?_
    refine A_if_ne (tgt := 23) d_65_18 rfl hf (fun hf => ?_) (fun hf => ?_)
    · refine A_iinc d_65_23 ic_1 rfl ml_65 rfl rfl ?_
      refine P_goto (tgt := 2) d_65_26 rfl ?_
      exact hrec _ _ hW  hf
    · refine A_iconst d_65_21 ic_1 ?_
      cases hf
      exact A_zret d_65_22 mr_65 hW (Or.inr rfl) rfl (fun hW hb => k2 _ _ rfl hW hb)
theorem t_Plan_hasCordNamed_l2 {G : GT} {d : Nat} {v0 : Nat} {v1 : Int64} {Q : AM → Option Value → Prop} {o : (Unit × AM) ⊕ (Int32 × AM)} (k1 : ∀ (yo : Unit) (Mo : AM), o = .inl (yo, Mo) → WT Mo → PW G d 65 29 [ux, ux, ux, ux] [] Mo 0 0 Q) (k2 : ∀ (r : Int32) (M' : AM), o = .inr (r, M') → WT M' → (r = 0 ∨ r = 1) → Q M' (some (.int r))) (hv0 : kd0 v0 = 5) : ∀ (z : Nat) (v3 : Int32) (M : AM), WT M → f_Plan_hasCordNamed_l2 v0 v1 z v3 M = some o → PW G d 65 2 [.ref v0, .long v1, ux, .int v3] [] M 0 0 Q := by
  intro z
  induction z with
  | zero => intro v3 M hW hf; cases hf
  | succ z ih => intro v3 M hW hf; exact t_Plan_hasCordNamed_b2 (fun v3 M hW hf => ih v3 M hW hf) k1 k2 hW hv0  hf
def f_Plan_hasCordNamed (a0 : Nat) (a1 : Int64) (M : AM) : Option (Int32 × AM) :=
  bn2 (f_Plan_hasCordNamed_l2 a0 a1 fu 0 M) (fun y1 M2 => some (0, M2))
set_option maxRecDepth 20000 in
theorem t_Plan_hasCordNamed {G : GT} {d : Nat} {a0 : Nat} {a1 : Int64} {M : AM} {Q : AM → Option Value → Prop} {r : Int32} {M' : AM} (hW : WT M) (ha0 : kd0 a0 = 5) (hf : f_Plan_hasCordNamed a0 a1 M = some (r, M')) (k : WT M' → (r = 0 ∨ r = 1) → Q M' (some (.int r)))  : Cal G d 65 [.ref a0, .long a1] M Q := by
  refine A_enter ml_65 rfl ?_
  refine A_iconst d_65_0 ic_0 ?_
  refine A_istore_n d_65_1 ml_65 rfl rfl ?_
  obtain ⟨o, hl, hf⟩ := bn2_some hf
  refine t_Plan_hasCordNamed_l2 (o := o) (fun y1 M2 e hW => ?_) (fun r1 Mr e hW hb => ?_) ha0 fu _ _ hW  hl
  · subst e
    change _ = some (r, M') at hf
    refine A_iconst d_65_29 ic_0 ?_
    exact A_zret d_65_30 mr_65 hW (Or.inl rfl) hf k
  · subst e; cases hf; exact k hW hb
def f_Plan_addCord (a0 : Nat) (a1 : Int64) (M : AM) : Option (Int32 × AM) :=
  if 8 ≤ (gI M a0 6) then some (gI M a0 6, M) else last' 8 M (a0 + 5) (gI M a0 6) a1 (fun M1 => ast 8 M1 (a0 + 6) (gI M a0 6) 0 (fun M2 => ast 8 M2 (a0 + 7) (gI M a0 6) 1 (fun M3 => wI M3 a0 6 ((gI M3 a0 6) + 1) (fun M4 => some (gI M a0 6, M4)))))
set_option maxRecDepth 20000 in
theorem t_Plan_addCord {G : GT} {d : Nat} {a0 : Nat} {a1 : Int64} {M : AM} {Q : AM → Option Value → Prop} {r : Int32} {M' : AM} (hW : WT M) (ha0 : kd0 a0 = 5) (hf : f_Plan_addCord a0 a1 M = some (r, M')) (k : WT M' → Q M' (some (.int r)))  : Cal G d 66 [.ref a0, .long a1] M Q := by
  refine A_enter ml_66 rfl ?_
  refine P_aload_n d_66_0 rfl ?_
  refine A_gI d_66_1 cn_66 fk_CordLoft_Plan_58 ha0 hW ?_
  refine A_istore_n d_66_4 ml_66 rfl rfl ?_
  refine P_iload_n d_66_5 rfl ?_
  refine P_bipush d_66_6 bi_8 ?_
  refine A_icmp_ge (tgt := 42) d_66_8 rfl hf (fun hf => ?_) (fun hf => ?_)
  · refine P_iload_n d_66_42 rfl ?_
    exact A_iret d_66_43 mr_66 hW hf k
  · refine P_aload_n d_66_11 rfl ?_
    refine A_gFr d_66_12 cn_66 fk_CordLoft_Plan_25 ft_5_7 ha0 hW ?_
    refine P_iload_n d_66_15 rfl ?_
    refine P_lload_n d_66_16 rfl ?_
    refine A_last d_66_17 (kr_5_5 ha0) (lr_5_5 ha0) hW hf (fun hW hf => ?_)
    refine P_aload_n d_66_18 rfl ?_
    refine A_gFr d_66_19 cn_66 fk_CordLoft_Plan_28 ft_5_8 ha0 hW ?_
    refine P_iload_n d_66_22 rfl ?_
    refine A_iconst d_66_23 ic_0 ?_
    refine A_iast d_66_24 (kr_5_6 ha0) (lr_5_6 ha0) hW hf (fun hW hf => ?_)
    refine P_aload_n d_66_25 rfl ?_
    refine A_gFr d_66_26 cn_66 fk_CordLoft_Plan_31 ft_5_9 ha0 hW ?_
    refine P_iload_n d_66_29 rfl ?_
    refine A_iconst d_66_30 ic_1 ?_
    refine A_iast d_66_31 (kr_5_7 ha0) (lr_5_7 ha0) hW hf (fun hW hf => ?_)
    refine P_aload_n d_66_32 rfl ?_
    refine P_dup d_66_33 rfl ?_
    refine A_gI d_66_34 cn_66 fk_CordLoft_Plan_58 ha0 hW ?_
    refine A_iconst d_66_37 ic_1 ?_
    refine P_iadd d_66_38 ?_
    refine A_pI d_66_39 cn_66 fp_CordLoft_Plan_58 ha0 hW hf (fun hW hf => ?_)
    refine P_iload_n d_66_42 rfl ?_
    exact A_iret d_66_43 mr_66 hW hf k
def f_Reader_knownLamp  (M : AM) : Option (Int32 × AM) :=
  if (gI M 3 6) = 2 then ckK (gR M 7 1) 5 (bnd (f_Plan_lampNamed (gR M 7 1) (gL M 3 8) M) (fun r2 M3 => if 0 ≤ r2 then some (r2, M3) else bnd (f_Reader_refuse 5 M3) (fun r4 M5 => some (r2, M5)))) else bnd (f_Reader_refuse 2 M) (fun r6 M7 => some ((-1), M7))
set_option maxRecDepth 20000 in
theorem t_Reader_knownLamp {G : GT} {d : Nat}  {M : AM} {Q : AM → Option Value → Prop} {r : Int32} {M' : AM} (hW : WT M)  (hf : f_Reader_knownLamp  M = some (r, M')) (k : WT M' → Q M' (some (.int r)))  : Cal G (d + 1) 69 [.ref 7] M Q := by
  refine A_enter ml_69 rfl ?_
  refine P_aload_n d_69_0 rfl ?_
  refine A_gF d_69_1 cn_69 fk_CordLoft_Reader_9 ft_6_0 k_7 hW ?_
  refine A_gI d_69_4 cn_69 fk_CordLoft_Reader_36 k_3 hW ?_
  refine A_iconst d_69_7 ic_2 ?_
  refine A_icmp_eq (tgt := 19) d_69_8 rfl hf (fun hf => ?_) (fun hf => ?_)
  · refine P_aload_n d_69_19 rfl ?_
    refine A_gM d_69_20 cn_69 fk_CordLoft_Reader_15 k_7 hW hf (fun hk1 hf => ?_)
    refine P_aload_n d_69_23 rfl ?_
    refine A_gF d_69_24 cn_69 fk_CordLoft_Reader_9 ft_6_0 k_7 hW ?_
    refine A_gL d_69_27 cn_69 fk_CordLoft_Reader_92 k_3 hW ?_
    refine A_V1 d_69_30 vk_69_96 ml_61 rfl hk1 hW rfl hf (fun r2 M3 hc hf => t_Plan_lampNamed hW hk1 hc (fun hW => ?_))
    refine A_istore_n d_69_33 ml_69 rfl rfl ?_
    refine P_iload_n d_69_34 rfl ?_
    refine A_if_ge (tgt := 44) d_69_35 rfl hf (fun hf => ?_) (fun hf => ?_)
    · refine P_iload_n d_69_44 rfl ?_
      exact A_iret d_69_45 mr_69 hW hf k
    · refine P_aload_n d_69_38 rfl ?_
      refine A_iconst d_69_39 ic_5 ?_
      refine A_V1 d_69_40 vk_69_80 ml_60 rfl k_7 hW rfl hf (fun r4 M5 hc hf => t_Reader_refuse hW  hc (fun hW hb5 => ?_))
      refine P_pop d_69_43 rfl ?_
      refine P_iload_n d_69_44 rfl ?_
      exact A_iret d_69_45 mr_69 hW hf k
  · refine P_aload_n d_69_11 rfl ?_
    refine A_iconst d_69_12 ic_2 ?_
    refine A_V1 d_69_13 vk_69_80 ml_60 rfl k_7 hW rfl hf (fun r6 M7 hc hf => t_Reader_refuse hW  hc (fun hW hb7 => ?_))
    refine P_pop d_69_16 rfl ?_
    refine A_iconst d_69_17 ic_m1 ?_
    exact A_iret d_69_18 mr_69 hW hf k
def f_Reader_readTurned_j25 (rec : Int32 → AM → Option ((Unit × AM) ⊕ (Int32 × AM))) (v1 : Int32) (v2 : Int32) (M : AM) : Option ((Unit × AM) ⊕ (Int32 × AM)) :=
  bnd (f_Reader_knownLamp  M) (fun r1 M2 => if 0 ≤ r1 then ckK (gR M2 7 1) 5 (ald 8 M2 ((gR M2 7 1) + 6) v1 (fun x4 => if ((x4 >>> (r1 &&& 31)) &&& 1) = 0 then ckK (gR M2 7 1) 5 (ald 8 M2 ((gR M2 7 1) + 6) v1 (fun x6 => ast 8 M2 ((gR M2 7 1) + 6) v1 (x6 ||| ((1 : Int32) <<< (r1 &&& 31))) (fun M7 => bnd (f_Tokens_step  M7) (fun r8 M9 => rec (v2 + 1) M9)))) else bnd (f_Reader_refuse 3 M2) (fun r10 M11 => some (.inr (r10, M11))))) else some (.inr (0, M2)))
set_option maxRecDepth 20000 in
theorem t_Reader_readTurned_j25 {G : GT} {d : Nat} {v1 : Int32} {v2 : Int32} {M : AM} {Q : AM → Option Value → Prop} {o : (Unit × AM) ⊕ (Int32 × AM)} {rec : Int32 → AM → Option ((Unit × AM) ⊕ (Int32 × AM))} (hrec : ∀ (v2 : Int32) (M : AM), WT M → rec v2 M = some o → PW G (d + 2) 68 2 [.ref 7, .int v1, .int v2, ux] [] M 0 0 Q) (k1 : ∀ (yo : Unit) (Mo : AM), o = .inl (yo, Mo) → WT Mo → PW G (d + 2) 68 86 [ux, ux, ux, ux] [] Mo 0 0 Q) (k2 : ∀ (r : Int32) (M' : AM), o = .inr (r, M') → WT M' → (r = 0 ∨ r = 1) → Q M' (some (.int r))) (hW : WT M)  (hf : f_Reader_readTurned_j25 rec v1 v2 M = some o) : PW G (d + 2) 68 25 [.ref 7, .int v1, .int v2, ux] [] M 0 0 Q := by
  refine P_aload_n d_68_25 rfl ?_
  refine A_V0 d_68_26 vk_68_126 ml_69 rfl k_7 hW rfl hf (fun r1 M2 hc hf => t_Reader_knownLamp hW  hc (fun hW => ?_))
  refine A_istore_n d_68_29 ml_68 rfl rfl ?_
  refine P_iload_n d_68_30 rfl ?_
  refine A_if_ge (tgt := 36) d_68_31 rfl hf (fun hf => ?_) (fun hf => ?_)
  · refine P_aload_n d_68_36 rfl ?_
    refine A_gM d_68_37 cn_68 fk_CordLoft_Reader_15 k_7 hW hf (fun hk3 hf => ?_)
    refine A_gFr d_68_40 cn_68 fk_CordLoft_Reader_130 ft_5_8 hk3 hW ?_
    refine P_iload_n d_68_43 rfl ?_
    refine A_iald d_68_44 (kr_5_6 hk3) (lr_5_6 hk3) hW hf (fun hf => ?_)
    refine P_iload_n d_68_45 rfl ?_
    refine P_ishr d_68_46 ?_
    refine A_iconst d_68_47 ic_1 ?_
    refine P_iand d_68_48 ?_
    refine A_if_eq (tgt := 58) d_68_49 rfl hf (fun hf => ?_) (fun hf => ?_)
    · refine P_aload_n d_68_58 rfl ?_
      refine A_gM d_68_59 cn_68 fk_CordLoft_Reader_15 k_7 hW hf (fun hk5 hf => ?_)
      refine A_gFr d_68_62 cn_68 fk_CordLoft_Reader_130 ft_5_8 hk5 hW ?_
      refine P_iload_n d_68_65 rfl ?_
      refine P_dup2 d_68_66 rfl rfl ?_
      refine A_iald d_68_67 (kr_5_6 hk5) (lr_5_6 hk5) hW hf (fun hf => ?_)
      refine A_iconst d_68_68 ic_1 ?_
      refine P_iload_n d_68_69 rfl ?_
      refine P_ishl d_68_70 ?_
      refine P_ior d_68_71 ?_
      refine A_iast d_68_72 (kr_5_6 hk5) (lr_5_6 hk5) hW hf (fun hW hf => ?_)
      refine P_aload_n d_68_73 rfl ?_
      refine A_gF d_68_74 cn_68 fk_CordLoft_Reader_9 ft_6_0 k_7 hW ?_
      refine A_V0 d_68_77 vk_68_89 ml_54 rfl k_3 hW rfl hf (fun r8 M9 hc hf => t_Tokens_step hW  hc (fun hW => ?_))
      refine A_iinc d_68_80 ic_1 rfl ml_68 rfl rfl ?_
      refine P_goto (tgt := 2) d_68_83 rfl ?_
      refine P_fgt [true, true, true, false] ?_
      exact hrec _ _ hW  hf
    · refine P_aload_n d_68_52 rfl ?_
      refine A_iconst d_68_53 ic_3 ?_
      refine A_V1 d_68_54 vk_68_80 ml_60 rfl k_7 hW rfl hf (fun r10 M11 hc hf => t_Reader_refuse hW  hc (fun hW hb11 => ?_))
      cases hf
      exact A_zret d_68_57 mr_68 hW hb11 rfl (fun hW hb => k2 _ _ rfl hW hb)
  · refine A_iconst d_68_34 ic_0 ?_
    cases hf
    exact A_zret d_68_35 mr_68 hW (Or.inl rfl) rfl (fun hW hb => k2 _ _ rfl hW hb)
def f_Reader_readTurned_b2 (rec : Int32 → AM → Option ((Unit × AM) ⊕ (Int32 × AM))) (v1 : Int32) (v2 : Int32) (M : AM) : Option ((Unit × AM) ⊕ (Int32 × AM)) :=
  if 8 < v2 then some (.inl ((), M)) else if v2 ≤ 0 then f_Reader_readTurned_j25 rec v1 v2 M else if (gI M 3 6) = 2 then f_Reader_readTurned_j25 rec v1 v2 M else some (.inr (1, M))
def f_Reader_readTurned_l2 (v1 : Int32) : Nat → Int32 → AM → Option ((Unit × AM) ⊕ (Int32 × AM))
  | 0, _, _ => none
  | n + 1, v2, M => f_Reader_readTurned_b2 (f_Reader_readTurned_l2 v1 n) v1 v2 M
set_option maxRecDepth 20000 in
theorem t_Reader_readTurned_b2 {G : GT} {d : Nat} {v1 : Int32} {v2 : Int32} {M : AM} {Q : AM → Option Value → Prop} {o : (Unit × AM) ⊕ (Int32 × AM)} {rec : Int32 → AM → Option ((Unit × AM) ⊕ (Int32 × AM))} (hrec : ∀ (v2 : Int32) (M : AM), WT M → rec v2 M = some o → PW G (d + 2) 68 2 [.ref 7, .int v1, .int v2, ux] [] M 0 0 Q) (k1 : ∀ (yo : Unit) (Mo : AM), o = .inl (yo, Mo) → WT Mo → PW G (d + 2) 68 86 [ux, ux, ux, ux] [] Mo 0 0 Q) (k2 : ∀ (r : Int32) (M' : AM), o = .inr (r, M') → WT M' → (r = 0 ∨ r = 1) → Q M' (some (.int r))) (hW : WT M)   (hf : f_Reader_readTurned_b2 rec v1 v2 M = some o) : PW G (d + 2) 68 2 [.ref 7, .int v1, .int v2, ux] [] M 0 0 Q := by
  refine P_iload_n d_68_2 rfl ?_
  refine P_bipush d_68_3 bi_8 ?_
  refine A_icmp_gt (tgt := 86) d_68_5 rfl hf (fun hf => ?_) (fun hf => ?_)
  · refine P_fgt [false, false, false, false] ?_
    cases hf
    exact k1 _ _ rfl hW 
  · refine P_iload_n d_68_8 rfl ?_
    refine A_if_le (tgt := 25) d_68_9 rfl hf (fun hf => ?_) (fun hf => ?_)
    · exact t_Reader_readTurned_j25 hrec k1 k2 hW  hf
    · refine P_aload_n d_68_12 rfl ?_
      refine A_gF d_68_13 cn_68 fk_CordLoft_Reader_9 ft_6_0 k_7 hW ?_
      refine A_gI d_68_16 cn_68 fk_CordLoft_Reader_36 k_3 hW ?_
      refine A_iconst d_68_19 ic_2 ?_
      refine A_icmp_eq (tgt := 25) d_68_20 rfl hf (fun hf => ?_) (fun hf => ?_)
      · exact t_Reader_readTurned_j25 hrec k1 k2 hW  hf
      · refine A_iconst d_68_23 ic_1 ?_
        cases hf
        exact A_zret d_68_24 mr_68 hW (Or.inr rfl) rfl (fun hW hb => k2 _ _ rfl hW hb)
theorem t_Reader_readTurned_l2 {G : GT} {d : Nat} {v1 : Int32} {Q : AM → Option Value → Prop} {o : (Unit × AM) ⊕ (Int32 × AM)} (k1 : ∀ (yo : Unit) (Mo : AM), o = .inl (yo, Mo) → WT Mo → PW G (d + 2) 68 86 [ux, ux, ux, ux] [] Mo 0 0 Q) (k2 : ∀ (r : Int32) (M' : AM), o = .inr (r, M') → WT M' → (r = 0 ∨ r = 1) → Q M' (some (.int r)))  : ∀ (z : Nat) (v2 : Int32) (M : AM), WT M → f_Reader_readTurned_l2 v1 z v2 M = some o → PW G (d + 2) 68 2 [.ref 7, .int v1, .int v2, ux] [] M 0 0 Q := by
  intro z
  induction z with
  | zero => intro v2 M hW hf; cases hf
  | succ z ih => intro v2 M hW hf; exact t_Reader_readTurned_b2 (fun v2 M hW hf => ih v2 M hW hf) k1 k2 hW   hf
def f_Reader_readTurned (a1 : Int32) (M : AM) : Option (Int32 × AM) :=
  bn2 (f_Reader_readTurned_l2 a1 fu 0 M) (fun y1 M2 => some (1, M2))
set_option maxRecDepth 20000 in
theorem t_Reader_readTurned {G : GT} {d : Nat} {a1 : Int32} {M : AM} {Q : AM → Option Value → Prop} {r : Int32} {M' : AM} (hW : WT M)  (hf : f_Reader_readTurned a1 M = some (r, M')) (k : WT M' → (r = 0 ∨ r = 1) → Q M' (some (.int r)))  : Cal G (d + 2) 68 [.ref 7, .int a1] M Q := by
  refine A_enter ml_68 rfl ?_
  refine A_iconst d_68_0 ic_0 ?_
  refine A_istore_n d_68_1 ml_68 rfl rfl ?_
  obtain ⟨o, hl, hf⟩ := bn2_some hf
  refine t_Reader_readTurned_l2 (o := o) (fun y1 M2 e hW => ?_) (fun r1 Mr e hW hb => ?_)  fu _ _ hW  hl
  · subst e
    change _ = some (r, M') at hf
    refine A_iconst d_68_86 ic_1 ?_
    exact A_zret d_68_87 mr_68 hW (Or.inr rfl) hf k
  · subst e; cases hf; exact k hW hb
def f_Reader_readCord  (M : AM) : Option (Int32 × AM) :=
  ckK (gR M 7 1) 5 (if (gI M (gR M 7 1) 6) < 8 then bnd (f_Tokens_step  M) (fun r2 M3 => if (gI M3 3 6) = 2 then ckK (gR M3 7 1) 5 (bnd (f_Plan_hasCordNamed (gR M3 7 1) (gL M3 3 8) M3) (fun r5 M6 => if r5 = 0 then ckK (gR M6 7 1) 5 (bnd (f_Plan_addCord (gR M6 7 1) (gL M6 3 8) M6) (fun r8 M9 => bnd (f_Tokens_step  M9) (fun r10 M11 => bnd (f_Reader_expect 135 M11) (fun r12 M13 => if r12 = 0 then some (0, M13) else bnd (f_Reader_readTurned r8 M13) (fun r14 M15 => if r14 = 0 then some (0, M15) else if (gI M15 3 6) = 136 then bnd (f_Tokens_step  M15) (fun r16 M17 => bnd (f_Reader_readNumber 20 M17) (fun r18 M19 => if r18 = 0 then some (0, M19) else ckK (gR M19 7 1) 5 (ast 8 M19 ((gR M19 7 1) + 7) r8 (gI M19 7 3) (fun M21 => some (1, M21))))) else some (1, M15)))))) else bnd (f_Reader_refuse 3 M6) (fun r22 M23 => some (r22, M23)))) else bnd (f_Reader_refuse 2 M3) (fun r24 M25 => some (r24, M25))) else bnd (f_Reader_refuse 2 M) (fun r26 M27 => some (r26, M27)))
set_option maxRecDepth 20000 in
theorem t_Reader_readCord {G : GT} {d : Nat}  {M : AM} {Q : AM → Option Value → Prop} {r : Int32} {M' : AM} (hW : WT M)  (hf : f_Reader_readCord  M = some (r, M')) (k : WT M' → (r = 0 ∨ r = 1) → Q M' (some (.int r)))  : Cal G (d + 3) 64 [.ref 7] M Q := by
  refine A_enter ml_64 rfl ?_
  refine P_aload_n d_64_0 rfl ?_
  refine A_gM d_64_1 cn_64 fk_CordLoft_Reader_15 k_7 hW hf (fun hk1 hf => ?_)
  refine A_gI d_64_4 cn_64 fk_CordLoft_Reader_110 hk1 hW ?_
  refine P_bipush d_64_7 bi_8 ?_
  refine A_icmp_lt (tgt := 18) d_64_9 rfl hf (fun hf => ?_) (fun hf => ?_)
  · refine P_aload_n d_64_18 rfl ?_
    refine A_gF d_64_19 cn_64 fk_CordLoft_Reader_9 ft_6_0 k_7 hW ?_
    refine A_V0 d_64_22 vk_64_89 ml_54 rfl k_3 hW rfl hf (fun r2 M3 hc hf => t_Tokens_step hW  hc (fun hW => ?_))
    refine P_aload_n d_64_25 rfl ?_
    refine A_gF d_64_26 cn_64 fk_CordLoft_Reader_9 ft_6_0 k_7 hW ?_
    refine A_gI d_64_29 cn_64 fk_CordLoft_Reader_36 k_3 hW ?_
    refine A_iconst d_64_32 ic_2 ?_
    refine A_icmp_eq (tgt := 42) d_64_33 rfl hf (fun hf => ?_) (fun hf => ?_)
    · refine P_aload_n d_64_42 rfl ?_
      refine A_gM d_64_43 cn_64 fk_CordLoft_Reader_15 k_7 hW hf (fun hk4 hf => ?_)
      refine P_aload_n d_64_46 rfl ?_
      refine A_gF d_64_47 cn_64 fk_CordLoft_Reader_9 ft_6_0 k_7 hW ?_
      refine A_gL d_64_50 cn_64 fk_CordLoft_Reader_92 k_3 hW ?_
      refine A_V1 d_64_53 vk_64_113 ml_65 rfl hk4 hW rfl hf (fun r5 M6 hc hf => t_Plan_hasCordNamed hW hk4 hc (fun hW hb6 => ?_))
      refine A_if_eq (tgt := 65) d_64_56 rfl hf (fun hf => ?_) (fun hf => ?_)
      · refine P_aload_n d_64_65 rfl ?_
        refine A_gM d_64_66 cn_64 fk_CordLoft_Reader_15 k_7 hW hf (fun hk7 hf => ?_)
        refine P_aload_n d_64_69 rfl ?_
        refine A_gF d_64_70 cn_64 fk_CordLoft_Reader_9 ft_6_0 k_7 hW ?_
        refine A_gL d_64_73 cn_64 fk_CordLoft_Reader_92 k_3 hW ?_
        refine A_V1 d_64_76 vk_64_117 ml_66 rfl hk7 hW rfl hf (fun r8 M9 hc hf => t_Plan_addCord hW hk7 hc (fun hW => ?_))
        refine A_istore_n d_64_79 ml_64 rfl rfl ?_
        refine P_aload_n d_64_80 rfl ?_
        refine A_gF d_64_81 cn_64 fk_CordLoft_Reader_9 ft_6_0 k_7 hW ?_
        refine A_V0 d_64_84 vk_64_89 ml_54 rfl k_3 hW rfl hf (fun r10 M11 hc hf => t_Tokens_step hW  hc (fun hW => ?_))
        refine P_aload_n d_64_87 rfl ?_
        refine P_sipush d_64_88 si_135 ?_
        refine A_V1 d_64_91 vk_64_83 ml_67 rfl k_7 hW rfl hf (fun r12 M13 hc hf => t_Reader_expect hW  hc (fun hW hb13 => ?_))
        refine A_if_eq (tgt := 105) d_64_94 rfl hf (fun hf => ?_) (fun hf => ?_)
        · refine A_iconst d_64_105 ic_0 ?_
          exact A_zret d_64_106 mr_64 hW (Or.inl rfl) hf k
        · refine P_aload_n d_64_97 rfl ?_
          refine P_iload_n d_64_98 rfl ?_
          refine A_V1 d_64_99 vk_64_120 ml_68 rfl k_7 hW rfl hf (fun r14 M15 hc hf => t_Reader_readTurned hW  hc (fun hW hb15 => ?_))
          refine A_if_ne (tgt := 107) d_64_102 rfl hf (fun hf => ?_) (fun hf => ?_)
          · refine P_aload_n d_64_107 rfl ?_
            refine A_gF d_64_108 cn_64 fk_CordLoft_Reader_9 ft_6_0 k_7 hW ?_
            refine A_gI d_64_111 cn_64 fk_CordLoft_Reader_36 k_3 hW ?_
            refine P_sipush d_64_114 si_136 ?_
            refine A_icmp_ne (tgt := 151) d_64_117 rfl hf (fun hf => ?_) (fun hf => ?_)
            · refine A_iconst d_64_151 ic_1 ?_
              exact A_zret d_64_152 mr_64 hW (Or.inr rfl) hf k
            · refine P_aload_n d_64_120 rfl ?_
              refine A_gF d_64_121 cn_64 fk_CordLoft_Reader_9 ft_6_0 k_7 hW ?_
              refine A_V0 d_64_124 vk_64_89 ml_54 rfl k_3 hW rfl hf (fun r16 M17 hc hf => t_Tokens_step hW  hc (fun hW => ?_))
              refine P_aload_n d_64_127 rfl ?_
              refine P_bipush d_64_128 bi_20 ?_
              refine A_V1 d_64_130 vk_64_64 ml_63 rfl k_7 hW rfl hf (fun r18 M19 hc hf => t_Reader_readNumber hW  hc (fun hW hb19 => ?_))
              refine A_if_ne (tgt := 138) d_64_133 rfl hf (fun hf => ?_) (fun hf => ?_)
              · refine P_aload_n d_64_138 rfl ?_
                refine A_gM d_64_139 cn_64 fk_CordLoft_Reader_15 k_7 hW hf (fun hk20 hf => ?_)
                refine A_gFr d_64_142 cn_64 fk_CordLoft_Reader_123 ft_5_9 hk20 hW ?_
                refine P_iload_n d_64_145 rfl ?_
                refine P_aload_n d_64_146 rfl ?_
                refine A_gI d_64_147 cn_64 fk_CordLoft_Reader_68 k_7 hW ?_
                refine A_iast d_64_150 (kr_5_7 hk20) (lr_5_7 hk20) hW hf (fun hW hf => ?_)
                refine A_iconst d_64_151 ic_1 ?_
                exact A_zret d_64_152 mr_64 hW (Or.inr rfl) hf k
              · refine A_iconst d_64_136 ic_0 ?_
                exact A_zret d_64_137 mr_64 hW (Or.inl rfl) hf k
          · refine A_iconst d_64_105 ic_0 ?_
            exact A_zret d_64_106 mr_64 hW (Or.inl rfl) hf k
      · refine P_aload_n d_64_59 rfl ?_
        refine A_iconst d_64_60 ic_3 ?_
        refine A_V1 d_64_61 vk_64_80 ml_60 rfl k_7 hW rfl hf (fun r22 M23 hc hf => t_Reader_refuse hW  hc (fun hW hb23 => ?_))
        exact A_zret d_64_64 mr_64 hW hb23 hf k
    · refine P_aload_n d_64_36 rfl ?_
      refine A_iconst d_64_37 ic_2 ?_
      refine A_V1 d_64_38 vk_64_80 ml_60 rfl k_7 hW rfl hf (fun r24 M25 hc hf => t_Reader_refuse hW  hc (fun hW hb25 => ?_))
      exact A_zret d_64_41 mr_64 hW hb25 hf k
  · refine P_aload_n d_64_12 rfl ?_
    refine A_iconst d_64_13 ic_2 ?_
    refine A_V1 d_64_14 vk_64_80 ml_60 rfl k_7 hW rfl hf (fun r26 M27 hc hf => t_Reader_refuse hW  hc (fun hW hb27 => ?_))
    exact A_zret d_64_17 mr_64 hW hb27 hf k
def f_Reader_readNext_j57  (M : AM) : Option (Int32 × AM) :=
  bnd (f_Reader_refuse 3 M) (fun r1 M2 => some (r1, M2))
set_option maxRecDepth 20000 in
theorem t_Reader_readNext_j57 {G : GT} {d : Nat}  {M : AM} {Q : AM → Option Value → Prop} {r : Int32} {M' : AM} (k : WT M' → (r = 0 ∨ r = 1) → Q M' (some (.int r))) (hW : WT M)  (hf : f_Reader_readNext_j57  M = some (r, M')) : PW G (d + 2) 70 57 [.ref 7, ux, ux] [] M 0 0 Q := by
  refine P_aload_n d_70_57 rfl ?_
  refine A_iconst d_70_58 ic_3 ?_
  refine A_V1 d_70_59 vk_70_80 ml_60 rfl k_7 hW rfl hf (fun r1 M2 hc hf => t_Reader_refuse hW  hc (fun hW hb2 => ?_))
  exact A_zret d_70_62 mr_70 hW hb2 hf k
def f_Reader_readNext  (M : AM) : Option (Int32 × AM) :=
  bnd (f_Tokens_step  M) (fun r1 M2 => bnd (f_Reader_knownLamp  M2) (fun r3 M4 => if 0 ≤ r3 then bnd (f_Tokens_step  M4) (fun r5 M6 => bnd (f_Reader_knownLamp  M6) (fun r7 M8 => if 0 ≤ r7 then if r3 = r7 then f_Reader_readNext_j57  M8 else ckK (gR M8 7 1) 5 (ald 8 M8 ((gR M8 7 1) + 4) r3 (fun x10 => if ((x10 >>> (r7 &&& 31)) &&& 1) = 0 then ckK (gR M8 7 1) 5 (ald 8 M8 ((gR M8 7 1) + 4) r3 (fun x12 => ast 8 M8 ((gR M8 7 1) + 4) r3 (x12 ||| ((1 : Int32) <<< (r7 &&& 31))) (fun M13 => ckK (gR M13 7 1) 5 (ald 8 M13 ((gR M13 7 1) + 4) r7 (fun x15 => ast 8 M13 ((gR M13 7 1) + 4) r7 (x15 ||| ((1 : Int32) <<< (r3 &&& 31))) (fun M16 => bnd (f_Tokens_step  M16) (fun r17 M18 => some (1, M18)))))))) else f_Reader_readNext_j57  M8)) else some (0, M8))) else some (0, M4)))
set_option maxRecDepth 20000 in
theorem t_Reader_readNext {G : GT} {d : Nat}  {M : AM} {Q : AM → Option Value → Prop} {r : Int32} {M' : AM} (hW : WT M)  (hf : f_Reader_readNext  M = some (r, M')) (k : WT M' → (r = 0 ∨ r = 1) → Q M' (some (.int r)))  : Cal G (d + 2) 70 [.ref 7] M Q := by
  refine A_enter ml_70 rfl ?_
  refine P_aload_n d_70_0 rfl ?_
  refine A_gF d_70_1 cn_70 fk_CordLoft_Reader_9 ft_6_0 k_7 hW ?_
  refine A_V0 d_70_4 vk_70_89 ml_54 rfl k_3 hW rfl hf (fun r1 M2 hc hf => t_Tokens_step hW  hc (fun hW => ?_))
  refine P_aload_n d_70_7 rfl ?_
  refine A_V0 d_70_8 vk_70_126 ml_69 rfl k_7 hW rfl hf (fun r3 M4 hc hf => t_Reader_knownLamp hW  hc (fun hW => ?_))
  refine A_istore_n d_70_11 ml_70 rfl rfl ?_
  refine P_iload_n d_70_12 rfl ?_
  refine A_if_ge (tgt := 18) d_70_13 rfl hf (fun hf => ?_) (fun hf => ?_)
  · refine P_aload_n d_70_18 rfl ?_
    refine A_gF d_70_19 cn_70 fk_CordLoft_Reader_9 ft_6_0 k_7 hW ?_
    refine A_V0 d_70_22 vk_70_89 ml_54 rfl k_3 hW rfl hf (fun r5 M6 hc hf => t_Tokens_step hW  hc (fun hW => ?_))
    refine P_aload_n d_70_25 rfl ?_
    refine A_V0 d_70_26 vk_70_126 ml_69 rfl k_7 hW rfl hf (fun r7 M8 hc hf => t_Reader_knownLamp hW  hc (fun hW => ?_))
    refine A_istore_n d_70_29 ml_70 rfl rfl ?_
    refine P_iload_n d_70_30 rfl ?_
    refine A_if_ge (tgt := 36) d_70_31 rfl hf (fun hf => ?_) (fun hf => ?_)
    · refine P_iload_n d_70_36 rfl ?_
      refine P_iload_n d_70_37 rfl ?_
      refine A_icmp_eq (tgt := 57) d_70_38 rfl hf (fun hf => ?_) (fun hf => ?_)
      · refine P_fgt [true, false, false] ?_
        exact t_Reader_readNext_j57 k hW  hf
      · refine P_aload_n d_70_41 rfl ?_
        refine A_gM d_70_42 cn_70 fk_CordLoft_Reader_15 k_7 hW hf (fun hk9 hf => ?_)
        refine A_gFr d_70_45 cn_70 fk_CordLoft_Reader_133 ft_5_5 hk9 hW ?_
        refine P_iload_n d_70_48 rfl ?_
        refine A_iald d_70_49 (kr_5_4 hk9) (lr_5_4 hk9) hW hf (fun hf => ?_)
        refine P_iload_n d_70_50 rfl ?_
        refine P_ishr d_70_51 ?_
        refine A_iconst d_70_52 ic_1 ?_
        refine P_iand d_70_53 ?_
        refine A_if_eq (tgt := 63) d_70_54 rfl hf (fun hf => ?_) (fun hf => ?_)
        · refine P_aload_n d_70_63 rfl ?_
          refine A_gM d_70_64 cn_70 fk_CordLoft_Reader_15 k_7 hW hf (fun hk11 hf => ?_)
          refine A_gFr d_70_67 cn_70 fk_CordLoft_Reader_133 ft_5_5 hk11 hW ?_
          refine P_iload_n d_70_70 rfl ?_
          refine P_dup2 d_70_71 rfl rfl ?_
          refine A_iald d_70_72 (kr_5_4 hk11) (lr_5_4 hk11) hW hf (fun hf => ?_)
          refine A_iconst d_70_73 ic_1 ?_
          refine P_iload_n d_70_74 rfl ?_
          refine P_ishl d_70_75 ?_
          refine P_ior d_70_76 ?_
          refine A_iast d_70_77 (kr_5_4 hk11) (lr_5_4 hk11) hW hf (fun hW hf => ?_)
          refine P_aload_n d_70_78 rfl ?_
          refine A_gM d_70_79 cn_70 fk_CordLoft_Reader_15 k_7 hW hf (fun hk14 hf => ?_)
          refine A_gFr d_70_82 cn_70 fk_CordLoft_Reader_133 ft_5_5 hk14 hW ?_
          refine P_iload_n d_70_85 rfl ?_
          refine P_dup2 d_70_86 rfl rfl ?_
          refine A_iald d_70_87 (kr_5_4 hk14) (lr_5_4 hk14) hW hf (fun hf => ?_)
          refine A_iconst d_70_88 ic_1 ?_
          refine P_iload_n d_70_89 rfl ?_
          refine P_ishl d_70_90 ?_
          refine P_ior d_70_91 ?_
          refine A_iast d_70_92 (kr_5_4 hk14) (lr_5_4 hk14) hW hf (fun hW hf => ?_)
          refine P_aload_n d_70_93 rfl ?_
          refine A_gF d_70_94 cn_70 fk_CordLoft_Reader_9 ft_6_0 k_7 hW ?_
          refine A_V0 d_70_97 vk_70_89 ml_54 rfl k_3 hW rfl hf (fun r17 M18 hc hf => t_Tokens_step hW  hc (fun hW => ?_))
          refine A_iconst d_70_100 ic_1 ?_
          exact A_zret d_70_101 mr_70 hW (Or.inr rfl) hf k
        · refine P_fgt [true, false, false] ?_
          exact t_Reader_readNext_j57 k hW  hf
    · refine A_iconst d_70_34 ic_0 ?_
      exact A_zret d_70_35 mr_70 hW (Or.inl rfl) hf k
  · refine A_iconst d_70_16 ic_0 ?_
    exact A_zret d_70_17 mr_70 hW (Or.inl rfl) hf k
def f_Reader_beginOnce  (M : AM) : Option (Int32 × AM) :=
  if ((gI M 7 2) &&& ((1 : Int32) <<< (((gI M 3 6) - 128) &&& 31))) = 0 then wI M 7 2 ((gI M 7 2) ||| ((1 : Int32) <<< (((gI M 3 6) - 128) &&& 31))) (fun M1 => bnd (f_Tokens_step  M1) (fun r2 M3 => some (1, M3))) else bnd (f_Reader_refuse 2 M) (fun r4 M5 => some (r4, M5))
set_option maxRecDepth 20000 in
theorem t_Reader_beginOnce {G : GT} {d : Nat}  {M : AM} {Q : AM → Option Value → Prop} {r : Int32} {M' : AM} (hW : WT M)  (hf : f_Reader_beginOnce  M = some (r, M')) (k : WT M' → (r = 0 ∨ r = 1) → Q M' (some (.int r)))  : Cal G (d + 1) 71 [.ref 7] M Q := by
  refine A_enter ml_71 rfl ?_
  refine A_iconst d_71_0 ic_1 ?_
  refine P_aload_n d_71_1 rfl ?_
  refine A_gF d_71_2 cn_71 fk_CordLoft_Reader_9 ft_6_0 k_7 hW ?_
  refine A_gI d_71_5 cn_71 fk_CordLoft_Reader_36 k_3 hW ?_
  refine P_sipush d_71_8 si_128 ?_
  refine P_isub d_71_11 ?_
  refine P_ishl d_71_12 ?_
  refine A_istore_n d_71_13 ml_71 rfl rfl ?_
  refine P_aload_n d_71_14 rfl ?_
  refine A_gI d_71_15 cn_71 fk_CordLoft_Reader_24 k_7 hW ?_
  refine P_iload_n d_71_18 rfl ?_
  refine P_iand d_71_19 ?_
  refine A_if_eq (tgt := 29) d_71_20 rfl hf (fun hf => ?_) (fun hf => ?_)
  · refine P_aload_n d_71_29 rfl ?_
    refine P_dup d_71_30 rfl ?_
    refine A_gI d_71_31 cn_71 fk_CordLoft_Reader_24 k_7 hW ?_
    refine P_iload_n d_71_34 rfl ?_
    refine P_ior d_71_35 ?_
    refine A_pI d_71_36 cn_71 fp_CordLoft_Reader_24 k_7 hW hf (fun hW hf => ?_)
    refine P_aload_n d_71_39 rfl ?_
    refine A_gF d_71_40 cn_71 fk_CordLoft_Reader_9 ft_6_0 k_7 hW ?_
    refine A_V0 d_71_43 vk_71_89 ml_54 rfl k_3 hW rfl hf (fun r2 M3 hc hf => t_Tokens_step hW  hc (fun hW => ?_))
    refine A_iconst d_71_46 ic_1 ?_
    exact A_zret d_71_47 mr_71 hW (Or.inr rfl) hf k
  · refine P_aload_n d_71_23 rfl ?_
    refine A_iconst d_71_24 ic_2 ?_
    refine A_V1 d_71_25 vk_71_80 ml_60 rfl k_7 hW rfl hf (fun r4 M5 hc hf => t_Reader_refuse hW  hc (fun hW hb5 => ?_))
    exact A_zret d_71_28 mr_71 hW hb5 hf k
def f_Reader_readLine_j212 (v1 : Int32) (M : AM) : Option (Int32 × AM) :=
  if v1 = 0 then some (0, M) else bnd (f_Reader_expect 59 M) (fun r1 M2 => if r1 = 0 then some (0, M2) else some (1, M2))
set_option maxRecDepth 20000 in
theorem t_Reader_readLine_j212 {G : GT} {d : Nat} {v1 : Int32} {M : AM} {Q : AM → Option Value → Prop} {r : Int32} {M' : AM} (k : WT M' → (r = 0 ∨ r = 1) → Q M' (some (.int r))) (hW : WT M)  (hf : f_Reader_readLine_j212 v1 M = some (r, M')) : PW G (d + 105) 58 212 [.ref 7, .int v1] [] M 0 0 Q := by
  refine P_iload_n d_58_212 rfl ?_
  refine A_if_eq (tgt := 229) d_58_213 rfl hf (fun hf => ?_) (fun hf => ?_)
  · refine A_iconst d_58_229 ic_0 ?_
    exact A_zret d_58_230 mr_58 hW (Or.inl rfl) hf k
  · refine P_aload_n d_58_216 rfl ?_
    refine P_bipush d_58_217 bi_59 ?_
    refine A_V1 d_58_219 vk_58_83 ml_67 rfl k_7 hW rfl hf (fun r1 M2 hc hf => t_Reader_expect hW  hc (fun hW hb2 => ?_))
    refine A_if_eq (tgt := 229) d_58_222 rfl hf (fun hf => ?_) (fun hf => ?_)
    · refine A_iconst d_58_229 ic_0 ?_
      exact A_zret d_58_230 mr_58 hW (Or.inl rfl) hf k
    · refine A_iconst d_58_225 ic_1 ?_
      refine P_goto (tgt := 230) d_58_226 rfl ?_
      exact A_zret d_58_230 mr_58 hW (Or.inr rfl) hf k
def f_Reader_readLine_j191 (s0 : Int32) (M : AM) : Option (Int32 × AM) :=
  ckK (gR M 7 1) 5 (wI M (gR M 7 1) 16 (gI M 7 3) (fun M2 => f_Reader_readLine_j212 s0 M2))
set_option maxRecDepth 20000 in
theorem t_Reader_readLine_j191 {G : GT} {d : Nat} {s0 : Int32} {M : AM} {Q : AM → Option Value → Prop} {r : Int32} {M' : AM} (k : WT M' → (r = 0 ∨ r = 1) → Q M' (some (.int r))) (hW : WT M)  (hf : f_Reader_readLine_j191 s0 M = some (r, M')) : PW G (d + 105) 58 191 [.ref 7, ux] [.int s0] M 0 0 Q := by
  refine A_istore_n d_58_191 ml_58 rfl rfl ?_
  refine P_aload_n d_58_192 rfl ?_
  refine A_gM d_58_193 cn_58 fk_CordLoft_Reader_15 k_7 hW hf (fun hk1 hf => ?_)
  refine P_aload_n d_58_196 rfl ?_
  refine A_gI d_58_197 cn_58 fk_CordLoft_Reader_68 k_7 hW ?_
  refine A_pI d_58_200 cn_58 fp_CordLoft_Reader_77 hk1 hW hf (fun hW hf => ?_)
  refine P_goto (tgt := 212) d_58_203 rfl ?_
  exact t_Reader_readLine_j212 k hW  hf
def f_Reader_readLine_j190  (M : AM) : Option (Int32 × AM) :=
  f_Reader_readLine_j191 0 M
set_option maxRecDepth 20000 in
theorem t_Reader_readLine_j190 {G : GT} {d : Nat}  {M : AM} {Q : AM → Option Value → Prop} {r : Int32} {M' : AM} (k : WT M' → (r = 0 ∨ r = 1) → Q M' (some (.int r))) (hW : WT M)  (hf : f_Reader_readLine_j190  M = some (r, M')) : PW G (d + 105) 58 190 [.ref 7, ux] [] M 0 0 Q := by
  refine A_iconst d_58_190 ic_0 ?_
  exact t_Reader_readLine_j191 k hW  hf
def f_Reader_readLine_j154 (s0 : Int32) (M : AM) : Option (Int32 × AM) :=
  ckK (gR M 7 1) 5 (wI M (gR M 7 1) 15 (gI M 7 3) (fun M2 => f_Reader_readLine_j212 s0 M2))
set_option maxRecDepth 20000 in
theorem t_Reader_readLine_j154 {G : GT} {d : Nat} {s0 : Int32} {M : AM} {Q : AM → Option Value → Prop} {r : Int32} {M' : AM} (k : WT M' → (r = 0 ∨ r = 1) → Q M' (some (.int r))) (hW : WT M)  (hf : f_Reader_readLine_j154 s0 M = some (r, M')) : PW G (d + 105) 58 154 [.ref 7, ux] [.int s0] M 0 0 Q := by
  refine A_istore_n d_58_154 ml_58 rfl rfl ?_
  refine P_aload_n d_58_155 rfl ?_
  refine A_gM d_58_156 cn_58 fk_CordLoft_Reader_15 k_7 hW hf (fun hk1 hf => ?_)
  refine P_aload_n d_58_159 rfl ?_
  refine A_gI d_58_160 cn_58 fk_CordLoft_Reader_68 k_7 hW ?_
  refine A_pI d_58_163 cn_58 fp_CordLoft_Reader_74 hk1 hW hf (fun hW hf => ?_)
  refine P_goto (tgt := 212) d_58_166 rfl ?_
  exact t_Reader_readLine_j212 k hW  hf
def f_Reader_readLine_j153  (M : AM) : Option (Int32 × AM) :=
  f_Reader_readLine_j154 0 M
set_option maxRecDepth 20000 in
theorem t_Reader_readLine_j153 {G : GT} {d : Nat}  {M : AM} {Q : AM → Option Value → Prop} {r : Int32} {M' : AM} (k : WT M' → (r = 0 ∨ r = 1) → Q M' (some (.int r))) (hW : WT M)  (hf : f_Reader_readLine_j153  M = some (r, M')) : PW G (d + 105) 58 153 [.ref 7, ux] [] M 0 0 Q := by
  refine A_iconst d_58_153 ic_0 ?_
  exact t_Reader_readLine_j154 k hW  hf
def f_Reader_readLine_j118 (s0 : Int32) (M : AM) : Option (Int32 × AM) :=
  ckK (gR M 7 1) 5 (wI M (gR M 7 1) 14 (gI M 7 3) (fun M2 => f_Reader_readLine_j212 s0 M2))
set_option maxRecDepth 20000 in
theorem t_Reader_readLine_j118 {G : GT} {d : Nat} {s0 : Int32} {M : AM} {Q : AM → Option Value → Prop} {r : Int32} {M' : AM} (k : WT M' → (r = 0 ∨ r = 1) → Q M' (some (.int r))) (hW : WT M)  (hf : f_Reader_readLine_j118 s0 M = some (r, M')) : PW G (d + 105) 58 118 [.ref 7, ux] [.int s0] M 0 0 Q := by
  refine A_istore_n d_58_118 ml_58 rfl rfl ?_
  refine P_aload_n d_58_119 rfl ?_
  refine A_gM d_58_120 cn_58 fk_CordLoft_Reader_15 k_7 hW hf (fun hk1 hf => ?_)
  refine P_aload_n d_58_123 rfl ?_
  refine A_gI d_58_124 cn_58 fk_CordLoft_Reader_68 k_7 hW ?_
  refine A_pI d_58_127 cn_58 fp_CordLoft_Reader_71 hk1 hW hf (fun hW hf => ?_)
  refine P_goto (tgt := 212) d_58_130 rfl ?_
  exact t_Reader_readLine_j212 k hW  hf
def f_Reader_readLine_j117  (M : AM) : Option (Int32 × AM) :=
  f_Reader_readLine_j118 0 M
set_option maxRecDepth 20000 in
theorem t_Reader_readLine_j117 {G : GT} {d : Nat}  {M : AM} {Q : AM → Option Value → Prop} {r : Int32} {M' : AM} (k : WT M' → (r = 0 ∨ r = 1) → Q M' (some (.int r))) (hW : WT M)  (hf : f_Reader_readLine_j117  M = some (r, M')) : PW G (d + 105) 58 117 [.ref 7, ux] [] M 0 0 Q := by
  refine A_iconst d_58_117 ic_0 ?_
  exact t_Reader_readLine_j118 k hW  hf
def f_Reader_readLine_j93 (s0 : Int32) (M : AM) : Option (Int32 × AM) :=
  f_Reader_readLine_j212 s0 M
set_option maxRecDepth 20000 in
theorem t_Reader_readLine_j93 {G : GT} {d : Nat} {s0 : Int32} {M : AM} {Q : AM → Option Value → Prop} {r : Int32} {M' : AM} (k : WT M' → (r = 0 ∨ r = 1) → Q M' (some (.int r))) (hW : WT M)  (hf : f_Reader_readLine_j93 s0 M = some (r, M')) : PW G (d + 105) 58 93 [.ref 7, ux] [.int s0] M 0 0 Q := by
  refine A_istore_n d_58_93 ml_58 rfl rfl ?_
  refine P_goto (tgt := 212) d_58_94 rfl ?_
  exact t_Reader_readLine_j212 k hW  hf
def f_Reader_readLine_j92  (M : AM) : Option (Int32 × AM) :=
  f_Reader_readLine_j93 0 M
set_option maxRecDepth 20000 in
theorem t_Reader_readLine_j92 {G : GT} {d : Nat}  {M : AM} {Q : AM → Option Value → Prop} {r : Int32} {M' : AM} (k : WT M' → (r = 0 ∨ r = 1) → Q M' (some (.int r))) (hW : WT M)  (hf : f_Reader_readLine_j92  M = some (r, M')) : PW G (d + 105) 58 92 [.ref 7, ux] [] M 0 0 Q := by
  refine A_iconst d_58_92 ic_0 ?_
  exact t_Reader_readLine_j93 k hW  hf
def f_Reader_readLine  (M : AM) : Option (Int32 × AM) :=
  swi (gI M 3 6) [(128, bnd (f_Reader_readLamp  M) (fun r1 M2 => f_Reader_readLine_j212 r1 M2)), (129, bnd (f_Reader_readCord  M) (fun r3 M4 => f_Reader_readLine_j212 r3 M4)), (130, bnd (f_Reader_readNext  M) (fun r5 M6 => f_Reader_readLine_j212 r5 M6)), (131, bnd (f_Reader_beginOnce  M) (fun r7 M8 => if r7 = 0 then f_Reader_readLine_j92  M8 else bnd (f_grp 100 0 0 0 M8) (fun r9 M10 => if r9 = 0 then f_Reader_readLine_j92  M10 else f_Reader_readLine_j93 1 M10))), (132, bnd (f_Reader_beginOnce  M) (fun r11 M12 => if r11 = 0 then f_Reader_readLine_j117  M12 else bnd (f_Reader_readNumber 8 M12) (fun r13 M14 => if r13 = 0 then f_Reader_readLine_j117  M14 else f_Reader_readLine_j118 1 M14))), (133, bnd (f_Reader_beginOnce  M) (fun r15 M16 => if r15 = 0 then f_Reader_readLine_j153  M16 else bnd (f_Reader_readNumber 100 M16) (fun r17 M18 => if r17 = 0 then f_Reader_readLine_j153  M18 else f_Reader_readLine_j154 1 M18))), (134, bnd (f_Reader_beginOnce  M) (fun r19 M20 => if r19 = 0 then f_Reader_readLine_j190  M20 else bnd (f_Reader_readNumber 999 M20) (fun r21 M22 => if r21 = 0 then f_Reader_readLine_j190  M22 else f_Reader_readLine_j191 1 M22)))] (bnd (f_Reader_refuse 2 M) (fun r23 M24 => f_Reader_readLine_j212 r23 M24))
set_option maxRecDepth 20000 in
theorem t_Reader_readLine {G : GT} {d : Nat}  {M : AM} {Q : AM → Option Value → Prop} {r : Int32} {M' : AM} (hW : WT M)  (hf : f_Reader_readLine  M = some (r, M')) (k : WT M' → (r = 0 ∨ r = 1) → Q M' (some (.int r)))  : Cal G (d + 105) 58 [.ref 7] M Q := by
  refine A_enter ml_58 rfl ?_
  refine P_aload_n d_58_0 rfl ?_
  refine A_gF d_58_1 cn_58 fk_CordLoft_Reader_9 ft_6_0 k_7 hW ?_
  refine A_gI d_58_4 cn_58 fk_CordLoft_Reader_36 k_3 hW ?_
  refine A_tsw [128, 129, 130, 131, 132, 133, 134] [48, 56, 64, 72, 97, 133, 169] 206 d_58_7 rfl (by decide +kernel) hf (fun i A t h1 h2 hf => ?_) (fun hf => ?_)
  · match i, h1, h2 with
    | 0, h1, h2 =>
      have h3 := (Prod.mk.inj (Option.some.inj h1)).2
      have h4 := Option.some.inj h2
      subst h3; subst h4; clear h1 h2
      refine P_aload_n d_58_48 rfl ?_
      refine A_V0 d_58_49 vk_58_48 ml_59 rfl k_7 hW rfl hf (fun r1 M2 hc hf => t_Reader_readLamp hW  hc (fun hW hb2 => ?_))
      refine A_istore_n d_58_52 ml_58 rfl rfl ?_
      refine P_goto (tgt := 212) d_58_53 rfl ?_
      exact t_Reader_readLine_j212 k hW  hf
    | 1, h1, h2 =>
      have h3 := (Prod.mk.inj (Option.some.inj h1)).2
      have h4 := Option.some.inj h2
      subst h3; subst h4; clear h1 h2
      refine P_aload_n d_58_56 rfl ?_
      refine A_V0 d_58_57 vk_58_51 ml_64 rfl k_7 hW rfl hf (fun r3 M4 hc hf => t_Reader_readCord hW  hc (fun hW hb4 => ?_))
      refine A_istore_n d_58_60 ml_58 rfl rfl ?_
      refine P_goto (tgt := 212) d_58_61 rfl ?_
      exact t_Reader_readLine_j212 k hW  hf
    | 2, h1, h2 =>
      have h3 := (Prod.mk.inj (Option.some.inj h1)).2
      have h4 := Option.some.inj h2
      subst h3; subst h4; clear h1 h2
      refine P_aload_n d_58_64 rfl ?_
      refine A_V0 d_58_65 vk_58_54 ml_70 rfl k_7 hW rfl hf (fun r5 M6 hc hf => t_Reader_readNext hW  hc (fun hW hb6 => ?_))
      refine A_istore_n d_58_68 ml_58 rfl rfl ?_
      refine P_goto (tgt := 212) d_58_69 rfl ?_
      exact t_Reader_readLine_j212 k hW  hf
    | 3, h1, h2 =>
      have h3 := (Prod.mk.inj (Option.some.inj h1)).2
      have h4 := Option.some.inj h2
      subst h3; subst h4; clear h1 h2
      refine P_aload_n d_58_72 rfl ?_
      refine A_V0 d_58_73 vk_58_57 ml_71 rfl k_7 hW rfl hf (fun r7 M8 hc hf => t_Reader_beginOnce hW  hc (fun hW hb8 => ?_))
      refine A_if_eq (tgt := 92) d_58_76 rfl hf (fun hf => ?_) (fun hf => ?_)
      · exact t_Reader_readLine_j92 k hW  hf
      · refine P_aload_n d_58_79 rfl ?_
        refine A_iconst d_58_80 ic_0 ?_
        refine A_iconst d_58_81 ic_0 ?_
        refine A_V2 d_58_82 vk_58_60 ml_72 rfl k_7 hW rfl hf (fun r9 M10 hc hf => t_grp0 hW hc (fun hW hb10 => ?_))
        refine A_if_eq (tgt := 92) d_58_85 rfl hf (fun hf => ?_) (fun hf => ?_)
        · exact t_Reader_readLine_j92 k hW  hf
        · refine A_iconst d_58_88 ic_1 ?_
          refine P_goto (tgt := 93) d_58_89 rfl ?_
          exact t_Reader_readLine_j93 k hW  hf
    | 4, h1, h2 =>
      have h3 := (Prod.mk.inj (Option.some.inj h1)).2
      have h4 := Option.some.inj h2
      subst h3; subst h4; clear h1 h2
      refine P_aload_n d_58_97 rfl ?_
      refine A_V0 d_58_98 vk_58_57 ml_71 rfl k_7 hW rfl hf (fun r11 M12 hc hf => t_Reader_beginOnce hW  hc (fun hW hb12 => ?_))
      refine A_if_eq (tgt := 117) d_58_101 rfl hf (fun hf => ?_) (fun hf => ?_)
      · exact t_Reader_readLine_j117 k hW  hf
      · refine P_aload_n d_58_104 rfl ?_
        refine P_bipush d_58_105 bi_8 ?_
        refine A_V1 d_58_107 vk_58_64 ml_63 rfl k_7 hW rfl hf (fun r13 M14 hc hf => t_Reader_readNumber hW  hc (fun hW hb14 => ?_))
        refine A_if_eq (tgt := 117) d_58_110 rfl hf (fun hf => ?_) (fun hf => ?_)
        · exact t_Reader_readLine_j117 k hW  hf
        · refine A_iconst d_58_113 ic_1 ?_
          refine P_goto (tgt := 118) d_58_114 rfl ?_
          exact t_Reader_readLine_j118 k hW  hf
    | 5, h1, h2 =>
      have h3 := (Prod.mk.inj (Option.some.inj h1)).2
      have h4 := Option.some.inj h2
      subst h3; subst h4; clear h1 h2
      refine P_aload_n d_58_133 rfl ?_
      refine A_V0 d_58_134 vk_58_57 ml_71 rfl k_7 hW rfl hf (fun r15 M16 hc hf => t_Reader_beginOnce hW  hc (fun hW hb16 => ?_))
      refine A_if_eq (tgt := 153) d_58_137 rfl hf (fun hf => ?_) (fun hf => ?_)
      · exact t_Reader_readLine_j153 k hW  hf
      · refine P_aload_n d_58_140 rfl ?_
        refine P_bipush d_58_141 bi_100 ?_
        refine A_V1 d_58_143 vk_58_64 ml_63 rfl k_7 hW rfl hf (fun r17 M18 hc hf => t_Reader_readNumber hW  hc (fun hW hb18 => ?_))
        refine A_if_eq (tgt := 153) d_58_146 rfl hf (fun hf => ?_) (fun hf => ?_)
        · exact t_Reader_readLine_j153 k hW  hf
        · refine A_iconst d_58_149 ic_1 ?_
          refine P_goto (tgt := 154) d_58_150 rfl ?_
          exact t_Reader_readLine_j154 k hW  hf
    | 6, h1, h2 =>
      have h3 := (Prod.mk.inj (Option.some.inj h1)).2
      have h4 := Option.some.inj h2
      subst h3; subst h4; clear h1 h2
      refine P_aload_n d_58_169 rfl ?_
      refine A_V0 d_58_170 vk_58_57 ml_71 rfl k_7 hW rfl hf (fun r19 M20 hc hf => t_Reader_beginOnce hW  hc (fun hW hb20 => ?_))
      refine A_if_eq (tgt := 190) d_58_173 rfl hf (fun hf => ?_) (fun hf => ?_)
      · exact t_Reader_readLine_j190 k hW  hf
      · refine P_aload_n d_58_176 rfl ?_
        refine P_sipush d_58_177 si_999 ?_
        refine A_V1 d_58_180 vk_58_64 ml_63 rfl k_7 hW rfl hf (fun r21 M22 hc hf => t_Reader_readNumber hW  hc (fun hW hb22 => ?_))
        refine A_if_eq (tgt := 190) d_58_183 rfl hf (fun hf => ?_) (fun hf => ?_)
        · exact t_Reader_readLine_j190 k hW  hf
        · refine A_iconst d_58_186 ic_1 ?_
          refine P_goto (tgt := 191) d_58_187 rfl ?_
          exact t_Reader_readLine_j191 k hW  hf
    | i + 7, h1, h2 => exact absurd h2 (by simp)
  · refine P_aload_n d_58_206 rfl ?_
    refine A_iconst d_58_207 ic_2 ?_
    refine A_V1 d_58_208 vk_58_80 ml_60 rfl k_7 hW rfl hf (fun r23 M24 hc hf => t_Reader_refuse hW  hc (fun hW hb24 => ?_))
    refine A_istore_n d_58_211 ml_58 rfl rfl ?_
    exact t_Reader_readLine_j212 k hW  hf
def f_Plan_settle_b75 (rec : Int32 → AM → Option (Unit × AM)) (v0 : Nat) (v1 : Int32) (v2 : Int32) (v3 : Int32) (M : AM) : Option (Unit × AM) :=
  if v2 ≤ v3 then some ((), M) else ald 256 M (v0 + 8) v3 (fun x1 => ald 8 M (v0 + 6) v1 (fun x2 => ast 256 M (v0 + 8) (v2 + v3) (x1 ^^^ x2) (fun M3 => rec (v3 + 1) M3)))
def f_Plan_settle_l75 (v0 : Nat) (v1 : Int32) (v2 : Int32) : Nat → Int32 → AM → Option (Unit × AM)
  | 0, _, _ => none
  | n + 1, v3, M => f_Plan_settle_b75 (f_Plan_settle_l75 v0 v1 v2 n) v0 v1 v2 v3 M
set_option maxRecDepth 20000 in
theorem t_Plan_settle_b75 {G : GT} {d : Nat} {v0 : Nat} {v1 : Int32} {v2 : Int32} {v3 : Int32} {M : AM} {Q : AM → Option Value → Prop} {yo : Unit} {Mo : AM} {rec : Int32 → AM → Option (Unit × AM)} (hrec : ∀ (v3 : Int32) (M : AM), WT M → rec v3 M = some (yo, Mo) → PW G d 77 75 [.ref v0, .int v1, .int v2, .int v3] [] M 0 0 Q) (k1 : WT Mo → PW G d 77 107 [.ref v0, .int v1, ux, ux] [] Mo 0 0 Q) (hW : WT M) (hv0 : kd0 v0 = 5)  (hf : f_Plan_settle_b75 rec v0 v1 v2 v3 M = some (yo, Mo)) : PW G d 77 75 [.ref v0, .int v1, .int v2, .int v3] [] M 0 0 Q := by
  refine P_iload_n d_77_75 rfl ?_
  refine P_iload_n d_77_76 rfl ?_
  refine A_icmp_ge (tgt := 107) d_77_77 rfl hf (fun hf => ?_) (fun hf => ?_)
  · refine P_fgt [true, true, false, false] ?_
    cases hf
    exact k1 hW 
  · refine P_aload_n d_77_80 rfl ?_
    refine A_gFr d_77_81 cn_77 fk_CordLoft_Plan_34 ft_5_10 hv0 hW ?_
    refine P_iload_n d_77_84 rfl ?_
    refine P_iload_n d_77_85 rfl ?_
    refine P_iadd d_77_86 ?_
    refine P_aload_n d_77_87 rfl ?_
    refine A_gFr d_77_88 cn_77 fk_CordLoft_Plan_34 ft_5_10 hv0 hW ?_
    refine P_iload_n d_77_91 rfl ?_
    refine A_iald d_77_92 (kr_5_8 hv0) (lr_5_8 hv0) hW hf (fun hf => ?_)
    refine P_aload_n d_77_93 rfl ?_
    refine A_gFr d_77_94 cn_77 fk_CordLoft_Plan_28 ft_5_8 hv0 hW ?_
    refine P_iload_n d_77_97 rfl ?_
    refine A_iald d_77_98 (kr_5_6 hv0) (lr_5_6 hv0) hW hf (fun hf => ?_)
    refine P_ixor d_77_99 ?_
    refine A_iast d_77_100 (kr_5_8 hv0) (lr_5_8 hv0) hW hf (fun hW hf => ?_)
    refine A_iinc d_77_101 ic_1 rfl ml_77 rfl rfl ?_
    refine P_goto (tgt := 75) d_77_104 rfl ?_
    exact hrec _ _ hW  hf
theorem t_Plan_settle_l75 {G : GT} {d : Nat} {v0 : Nat} {v1 : Int32} {v2 : Int32} {Q : AM → Option Value → Prop} {yo : Unit} {Mo : AM} (k1 : WT Mo → PW G d 77 107 [.ref v0, .int v1, ux, ux] [] Mo 0 0 Q) (hv0 : kd0 v0 = 5) : ∀ (z : Nat) (v3 : Int32) (M : AM), WT M → f_Plan_settle_l75 v0 v1 v2 z v3 M = some (yo, Mo) → PW G d 77 75 [.ref v0, .int v1, .int v2, .int v3] [] M 0 0 Q := by
  intro z
  induction z with
  | zero => intro v3 M hW hf; cases hf
  | succ z ih => intro v3 M hW hf; exact t_Plan_settle_b75 (fun v3 M hW hf => ih v3 M hW hf) k1 hW hv0  hf
def f_Plan_settle_b34 (rec : Int32 → AM → Option (Unit × AM)) (v0 : Nat) (v1 : Int32) (v2 : Int32) (M : AM) : Option (Unit × AM) :=
  if (gI M v0 0) ≤ v2 then some ((), M) else ald 8 M (v0 + 3) v2 (fun x1 => ald 8 M (v0 + 6) v1 (fun x2 => ast 8 M (v0 + 3) v2 (x1 ||| (((x2 >>> (v2 &&& 31)) &&& 1) <<< (v1 &&& 31))) (fun M3 => rec (v2 + 1) M3)))
def f_Plan_settle_l34 (v0 : Nat) (v1 : Int32) : Nat → Int32 → AM → Option (Unit × AM)
  | 0, _, _ => none
  | n + 1, v2, M => f_Plan_settle_b34 (f_Plan_settle_l34 v0 v1 n) v0 v1 v2 M
set_option maxRecDepth 20000 in
theorem t_Plan_settle_b34 {G : GT} {d : Nat} {v0 : Nat} {v1 : Int32} {v2 : Int32} {M : AM} {Q : AM → Option Value → Prop} {yo : Unit} {Mo : AM} {rec : Int32 → AM → Option (Unit × AM)} (hrec : ∀ (v2 : Int32) (M : AM), WT M → rec v2 M = some (yo, Mo) → PW G d 77 34 [.ref v0, .int v1, .int v2, ux] [] M 0 0 Q) (k1 : WT Mo → PW G d 77 69 [.ref v0, .int v1, ux, ux] [] Mo 0 0 Q) (hW : WT M) (hv0 : kd0 v0 = 5)  (hf : f_Plan_settle_b34 rec v0 v1 v2 M = some (yo, Mo)) : PW G d 77 34 [.ref v0, .int v1, .int v2, ux] [] M 0 0 Q := by
  refine P_iload_n d_77_34 rfl ?_
  refine P_aload_n d_77_35 rfl ?_
  refine A_gI d_77_36 cn_77 fk_CordLoft_Plan_51 hv0 hW ?_
  refine A_icmp_ge (tgt := 69) d_77_39 rfl hf (fun hf => ?_) (fun hf => ?_)
  · refine P_fgt [true, true, false, false] ?_
    cases hf
    exact k1 hW 
  · refine P_aload_n d_77_42 rfl ?_
    refine A_gFr d_77_43 cn_77 fk_CordLoft_Plan_19 ft_5_4 hv0 hW ?_
    refine P_iload_n d_77_46 rfl ?_
    refine P_dup2 d_77_47 rfl rfl ?_
    refine A_iald d_77_48 (kr_5_3 hv0) (lr_5_3 hv0) hW hf (fun hf => ?_)
    refine P_aload_n d_77_49 rfl ?_
    refine A_gFr d_77_50 cn_77 fk_CordLoft_Plan_28 ft_5_8 hv0 hW ?_
    refine P_iload_n d_77_53 rfl ?_
    refine A_iald d_77_54 (kr_5_6 hv0) (lr_5_6 hv0) hW hf (fun hf => ?_)
    refine P_iload_n d_77_55 rfl ?_
    refine P_ishr d_77_56 ?_
    refine A_iconst d_77_57 ic_1 ?_
    refine P_iand d_77_58 ?_
    refine P_iload_n d_77_59 rfl ?_
    refine P_ishl d_77_60 ?_
    refine P_ior d_77_61 ?_
    refine A_iast d_77_62 (kr_5_3 hv0) (lr_5_3 hv0) hW hf (fun hW hf => ?_)
    refine A_iinc d_77_63 ic_1 rfl ml_77 rfl rfl ?_
    refine P_goto (tgt := 34) d_77_66 rfl ?_
    exact hrec _ _ hW  hf
theorem t_Plan_settle_l34 {G : GT} {d : Nat} {v0 : Nat} {v1 : Int32} {Q : AM → Option Value → Prop} {yo : Unit} {Mo : AM} (k1 : WT Mo → PW G d 77 69 [.ref v0, .int v1, ux, ux] [] Mo 0 0 Q) (hv0 : kd0 v0 = 5) : ∀ (z : Nat) (v2 : Int32) (M : AM), WT M → f_Plan_settle_l34 v0 v1 z v2 M = some (yo, Mo) → PW G d 77 34 [.ref v0, .int v1, .int v2, ux] [] M 0 0 Q := by
  intro z
  induction z with
  | zero => intro v2 M hW hf; cases hf
  | succ z ih => intro v2 M hW hf; exact t_Plan_settle_b34 (fun v2 M hW hf => ih v2 M hW hf) k1 hW hv0  hf
def f_Plan_settle_b24 (rec : Int32 → AM → Option (Unit × AM)) (v0 : Nat) (v1 : Int32) (M : AM) : Option (Unit × AM) :=
  if (gI M v0 6) ≤ v1 then some ((), M) else bnd (f_Plan_settle_l34 v0 v1 fu 0 M) (fun y1 M2 => bnd (f_Plan_settle_l75 v0 v1 ((1 : Int32) <<< (v1 &&& 31)) fu 0 M2) (fun y3 M4 => rec (v1 + 1) M4))
def f_Plan_settle_l24 (v0 : Nat) : Nat → Int32 → AM → Option (Unit × AM)
  | 0, _, _ => none
  | n + 1, v1, M => f_Plan_settle_b24 (f_Plan_settle_l24 v0 n) v0 v1 M
set_option maxRecDepth 20000 in
theorem t_Plan_settle_b24 {G : GT} {d : Nat} {v0 : Nat} {v1 : Int32} {M : AM} {Q : AM → Option Value → Prop} {yo : Unit} {Mo : AM} {rec : Int32 → AM → Option (Unit × AM)} (hrec : ∀ (v1 : Int32) (M : AM), WT M → rec v1 M = some (yo, Mo) → PW G d 77 24 [.ref v0, .int v1, ux, ux] [] M 0 0 Q) (k1 : WT Mo → PW G d 77 113 [ux, ux, ux, ux] [] Mo 0 0 Q) (hW : WT M) (hv0 : kd0 v0 = 5)  (hf : f_Plan_settle_b24 rec v0 v1 M = some (yo, Mo)) : PW G d 77 24 [.ref v0, .int v1, ux, ux] [] M 0 0 Q := by
  refine P_iload_n d_77_24 rfl ?_
  refine P_aload_n d_77_25 rfl ?_
  refine A_gI d_77_26 cn_77 fk_CordLoft_Plan_58 hv0 hW ?_
  refine A_icmp_ge (tgt := 113) d_77_29 rfl hf (fun hf => ?_) (fun hf => ?_)
  · refine P_fgt [false, false, false, false] ?_
    cases hf
    exact k1 hW 
  · refine A_iconst d_77_32 ic_0 ?_
    refine A_istore_n d_77_33 ml_77 rfl rfl ?_
    obtain ⟨y1, M2, hl, hf⟩ := bnd_some hf
    refine t_Plan_settle_l34 (fun hW => ?_) hv0 fu _ _ hW  hl
    refine A_iconst d_77_69 ic_1 ?_
    refine P_iload_n d_77_70 rfl ?_
    refine P_ishl d_77_71 ?_
    refine A_istore_n d_77_72 ml_77 rfl rfl ?_
    refine A_iconst d_77_73 ic_0 ?_
    refine A_istore_n d_77_74 ml_77 rfl rfl ?_
    obtain ⟨y3, M4, hl, hf⟩ := bnd_some hf
    refine t_Plan_settle_l75 (fun hW => ?_) hv0 fu _ _ hW  hl
    refine A_iinc d_77_107 ic_1 rfl ml_77 rfl rfl ?_
    refine P_goto (tgt := 24) d_77_110 rfl ?_
    exact hrec _ _ hW  hf
theorem t_Plan_settle_l24 {G : GT} {d : Nat} {v0 : Nat} {Q : AM → Option Value → Prop} {yo : Unit} {Mo : AM} (k1 : WT Mo → PW G d 77 113 [ux, ux, ux, ux] [] Mo 0 0 Q) (hv0 : kd0 v0 = 5) : ∀ (z : Nat) (v1 : Int32) (M : AM), WT M → f_Plan_settle_l24 v0 z v1 M = some (yo, Mo) → PW G d 77 24 [.ref v0, .int v1, ux, ux] [] M 0 0 Q := by
  intro z
  induction z with
  | zero => intro v1 M hW hf; cases hf
  | succ z ih => intro v1 M hW hf; exact t_Plan_settle_b24 (fun v1 M hW hf => ih v1 M hW hf) k1 hW hv0  hf
def f_Plan_settle_b2 (rec : Int32 → AM → Option (Unit × AM)) (v0 : Nat) (v1 : Int32) (M : AM) : Option (Unit × AM) :=
  if 128 ≤ v1 then some ((), M) else ast 128 M (v0 + 13) v1 (-1) (fun M1 => rec (v1 + 1) M1)
def f_Plan_settle_l2 (v0 : Nat) : Nat → Int32 → AM → Option (Unit × AM)
  | 0, _, _ => none
  | n + 1, v1, M => f_Plan_settle_b2 (f_Plan_settle_l2 v0 n) v0 v1 M
set_option maxRecDepth 20000 in
theorem t_Plan_settle_b2 {G : GT} {d : Nat} {v0 : Nat} {v1 : Int32} {M : AM} {Q : AM → Option Value → Prop} {yo : Unit} {Mo : AM} {rec : Int32 → AM → Option (Unit × AM)} (hrec : ∀ (v1 : Int32) (M : AM), WT M → rec v1 M = some (yo, Mo) → PW G d 77 2 [.ref v0, .int v1, ux, ux] [] M 0 0 Q) (k1 : WT Mo → PW G d 77 22 [.ref v0, ux, ux, ux] [] Mo 0 0 Q) (hW : WT M) (hv0 : kd0 v0 = 5)  (hf : f_Plan_settle_b2 rec v0 v1 M = some (yo, Mo)) : PW G d 77 2 [.ref v0, .int v1, ux, ux] [] M 0 0 Q := by
  refine P_iload_n d_77_2 rfl ?_
  refine P_sipush d_77_3 si_128 ?_
  refine A_icmp_ge (tgt := 22) d_77_6 rfl hf (fun hf => ?_) (fun hf => ?_)
  · refine P_fgt [true, false, false, false] ?_
    cases hf
    exact k1 hW 
  · refine P_aload_n d_77_9 rfl ?_
    refine A_gFr d_77_10 cn_77 fk_CordLoft_Plan_44 ft_5_12 hv0 hW ?_
    refine P_iload_n d_77_13 rfl ?_
    refine A_iconst d_77_14 ic_m1 ?_
    refine A_iast d_77_15 (kr_5_13 hv0) (lr_5_13 hv0) hW hf (fun hW hf => ?_)
    refine A_iinc d_77_16 ic_1 rfl ml_77 rfl rfl ?_
    refine P_goto (tgt := 2) d_77_19 rfl ?_
    exact hrec _ _ hW  hf
theorem t_Plan_settle_l2 {G : GT} {d : Nat} {v0 : Nat} {Q : AM → Option Value → Prop} {yo : Unit} {Mo : AM} (k1 : WT Mo → PW G d 77 22 [.ref v0, ux, ux, ux] [] Mo 0 0 Q) (hv0 : kd0 v0 = 5) : ∀ (z : Nat) (v1 : Int32) (M : AM), WT M → f_Plan_settle_l2 v0 z v1 M = some (yo, Mo) → PW G d 77 2 [.ref v0, .int v1, ux, ux] [] M 0 0 Q := by
  intro z
  induction z with
  | zero => intro v1 M hW hf; cases hf
  | succ z ih => intro v1 M hW hf; exact t_Plan_settle_b2 (fun v1 M hW hf => ih v1 M hW hf) k1 hW hv0  hf
def f_Plan_settle (a0 : Nat) (M : AM) : Option (Unit × AM) :=
  bnd (f_Plan_settle_l2 a0 fu 0 M) (fun y1 M2 => bnd (f_Plan_settle_l24 a0 fu 0 M2) (fun y3 M4 => some ((), M4)))
set_option maxRecDepth 20000 in
theorem t_Plan_settle {G : GT} {d : Nat} {a0 : Nat} {M : AM} {Q : AM → Option Value → Prop} {r : Unit} {M' : AM} (hW : WT M) (ha0 : kd0 a0 = 5) (hf : f_Plan_settle a0 M = some (r, M')) (k : WT M' → Q M' none)  : Cal G d 77 [.ref a0] M Q := by
  refine A_enter ml_77 rfl ?_
  refine A_iconst d_77_0 ic_0 ?_
  refine A_istore_n d_77_1 ml_77 rfl rfl ?_
  obtain ⟨y1, M2, hl, hf⟩ := bnd_some hf
  refine t_Plan_settle_l2 (fun hW => ?_) ha0 fu _ _ hW  hl
  refine A_iconst d_77_22 ic_0 ?_
  refine A_istore_n d_77_23 ml_77 rfl rfl ?_
  obtain ⟨y3, M4, hl, hf⟩ := bnd_some hf
  refine t_Plan_settle_l24 (fun hW => ?_) ha0 fu _ _ hW  hl
  exact A_ret d_77_113 mr_77 hW hf k
def f_Reader_read_b29 (rec : Int32 → AM → Option ((Unit × AM) ⊕ (Int32 × AM)))  (v2 : Int32) (M : AM) : Option ((Unit × AM) ⊕ (Int32 × AM)) :=
  if 1600 < v2 then some (.inl ((), M)) else if (gI M 3 6) = 0 then some (.inl ((), M)) else bnd (f_Reader_readLine  M) (fun r1 M2 => if r1 = 0 then some (.inr (0, M2)) else rec (v2 + 1) M2)
def f_Reader_read_l29  : Nat → Int32 → AM → Option ((Unit × AM) ⊕ (Int32 × AM))
  | 0, _, _ => none
  | n + 1, v2, M => f_Reader_read_b29 (f_Reader_read_l29  n)  v2 M
set_option maxRecDepth 20000 in
theorem t_Reader_read_b29 {G : GT} {d : Nat}  {v2 : Int32} {M : AM} {Q : AM → Option Value → Prop} {o : (Unit × AM) ⊕ (Int32 × AM)} {rec : Int32 → AM → Option ((Unit × AM) ⊕ (Int32 × AM))} (hrec : ∀ (v2 : Int32) (M : AM), WT M → rec v2 M = some o → PW G (d + 106) 55 29 [.ref 7, ux, .int v2] [] M 0 0 Q) (k1 : ∀ (yo : Unit) (Mo : AM), o = .inl (yo, Mo) → WT Mo → PW G (d + 106) 55 61 [.ref 7, ux, ux] [] Mo 0 0 Q) (k2 : ∀ (r : Int32) (M' : AM), o = .inr (r, M') → WT M' → (r = 0 ∨ r = 1) → Q M' (some (.int r))) (hW : WT M)   (hf : f_Reader_read_b29 rec  v2 M = some o) : PW G (d + 106) 55 29 [.ref 7, ux, .int v2] [] M 0 0 Q := by
  refine P_iload_n d_55_29 rfl ?_
  refine P_sipush d_55_30 si_1600 ?_
  refine A_icmp_gt (tgt := 61) d_55_33 rfl hf (fun hf => ?_) (fun hf => ?_)
  · refine P_fgt [true, false, false] ?_
    cases hf
    exact k1 _ _ rfl hW 
  · refine P_aload_n d_55_36 rfl ?_
    refine A_gF d_55_37 cn_55 fk_CordLoft_Reader_9 ft_6_0 k_7 hW ?_
    refine A_gI d_55_40 cn_55 fk_CordLoft_Reader_36 k_3 hW ?_
    refine A_if_eq (tgt := 61) d_55_43 rfl hf (fun hf => ?_) (fun hf => ?_)
    · refine P_fgt [true, false, false] ?_
      cases hf
      exact k1 _ _ rfl hW 
    · refine P_aload_n d_55_46 rfl ?_
      refine A_V0 d_55_47 vk_55_41 ml_58 rfl k_7 hW rfl hf (fun r1 M2 hc hf => t_Reader_readLine hW  hc (fun hW hb2 => ?_))
      refine A_if_ne (tgt := 55) d_55_50 rfl hf (fun hf => ?_) (fun hf => ?_)
      · refine A_iinc d_55_55 ic_1 rfl ml_55 rfl rfl ?_
        refine P_goto (tgt := 29) d_55_58 rfl ?_
        exact hrec _ _ hW  hf
      · refine A_iconst d_55_53 ic_0 ?_
        cases hf
        exact A_zret d_55_54 mr_55 hW (Or.inl rfl) rfl (fun hW hb => k2 _ _ rfl hW hb)
theorem t_Reader_read_l29 {G : GT} {d : Nat}  {Q : AM → Option Value → Prop} {o : (Unit × AM) ⊕ (Int32 × AM)} (k1 : ∀ (yo : Unit) (Mo : AM), o = .inl (yo, Mo) → WT Mo → PW G (d + 106) 55 61 [.ref 7, ux, ux] [] Mo 0 0 Q) (k2 : ∀ (r : Int32) (M' : AM), o = .inr (r, M') → WT M' → (r = 0 ∨ r = 1) → Q M' (some (.int r)))  : ∀ (z : Nat) (v2 : Int32) (M : AM), WT M → f_Reader_read_l29  z v2 M = some o → PW G (d + 106) 55 29 [.ref 7, ux, .int v2] [] M 0 0 Q := by
  intro z
  induction z with
  | zero => intro v2 M hW hf; cases hf
  | succ z ih => intro v2 M hW hf; exact t_Reader_read_b29 (fun v2 M hW hf => ih v2 M hW hf) k1 k2 hW   hf
def f_Reader_read (a1 : Nat) (M : AM) : Option (Int32 × AM) :=
  wR M 7 1 a1 (fun M1 => ckK (gR M1 7 1) 5 (bnd (f_Plan_clear (gR M1 7 1) M1) (fun r3 M4 => wI M4 7 2 0 (fun M5 => wI M5 7 4 0 (fun M6 => wI M6 7 5 (-1) (fun M7 => bn2 (f_Reader_read_l29  fu 0 M7) (fun y8 M9 => ckK (gR M9 7 1) 5 (bnd (f_Plan_settle (gR M9 7 1) M9) (fun r11 M12 => some (1, M12))))))))))
set_option maxRecDepth 20000 in
theorem t_Reader_read {G : GT} {d : Nat} {a1 : Nat} {M : AM} {Q : AM → Option Value → Prop} {r : Int32} {M' : AM} (hW : WT M) (ha1 : kd0 a1 = 5) (hf : f_Reader_read a1 M = some (r, M')) (k : WT M' → (r = 0 ∨ r = 1) → Q M' (some (.int r)))  : Cal G (d + 106) 55 [.ref 7, .ref a1] M Q := by
  refine A_enter ml_55 rfl ?_
  refine P_aload_n d_55_0 rfl ?_
  refine P_aload_n d_55_1 rfl ?_
  refine A_pR d_55_2 cn_55 fp_CordLoft_Reader_15 k_7 hW hf (fun hW hf => ?_)
  refine P_aload_n d_55_5 rfl ?_
  refine A_gM d_55_6 cn_55 fk_CordLoft_Reader_15 k_7 hW hf (fun hk2 hf => ?_)
  refine A_V0 d_55_9 vk_55_19 ml_56 rfl hk2 hW rfl hf (fun r3 M4 hc hf => t_Plan_clear hW hk2 hc (fun hW => ?_))
  refine P_aload_n d_55_12 rfl ?_
  refine A_iconst d_55_13 ic_0 ?_
  refine A_pI d_55_14 cn_55 fp_CordLoft_Reader_24 k_7 hW hf (fun hW hf => ?_)
  refine P_aload_n d_55_17 rfl ?_
  refine A_iconst d_55_18 ic_0 ?_
  refine A_pI d_55_19 cn_55 fp_CordLoft_Reader_28 k_7 hW hf (fun hW hf => ?_)
  refine P_aload_n d_55_22 rfl ?_
  refine A_iconst d_55_23 ic_m1 ?_
  refine A_pI d_55_24 cn_55 fp_CordLoft_Reader_31 k_7 hW hf (fun hW hf => ?_)
  refine A_iconst d_55_27 ic_0 ?_
  refine A_istore_n d_55_28 ml_55 rfl rfl ?_
  obtain ⟨o, hl, hf⟩ := bn2_some hf
  refine P_fgt [true, false, true] ?_
  refine t_Reader_read_l29 (o := o) (fun y8 M9 e hW => ?_) (fun r1 Mr e hW hb => ?_)  fu _ _ hW  hl
  · subst e
    change _ = some (r, M') at hf
    refine P_aload_n d_55_61 rfl ?_
    refine A_gM d_55_62 cn_55 fk_CordLoft_Reader_15 k_7 hW hf (fun hk10 hf => ?_)
    refine A_V0 d_55_65 vk_55_45 ml_77 rfl hk10 hW rfl hf (fun r11 M12 hc hf => t_Plan_settle hW hk10 hc (fun hW => ?_))
    refine A_iconst d_55_68 ic_1 ?_
    exact A_zret d_55_69 mr_55 hW (Or.inr rfl) hf k
  · subst e; cases hf; exact k hW hb
def f_Acts_current  (M : AM) : Option (Nat × AM) :=
  rald 41 M 39 (gI M 38 1) (fun x1 => some (x1, M))
set_option maxRecDepth 20000 in
theorem t_Acts_current {G : GT} {d : Nat}  {M : AM} {Q : AM → Option Value → Prop} {r : Nat} {M' : AM} (hW : WT M)  (hf : f_Acts_current  M = some (r, M')) (k : WT M' → kd0 r = 9 → Q M' (some (.ref r)))  : Cal G d 78 [.ref 38] M Q := by
  refine A_enter ml_78 rfl ?_
  refine P_aload_n d_78_0 rfl ?_
  refine A_gF d_78_1 cn_78 fk_CordLoft_Acts_11 ft_1_0 k_38 hW ?_
  refine P_aload_n d_78_4 rfl ?_
  refine A_gI d_78_5 cn_78 fk_CordLoft_Acts_16 k_38 hW ?_
  refine A_aald d_78_8 k_39 l_39 hW hf (fun x1 hk2 hf => ?_)
  exact A_aret d_78_9 mr_78 hW hk2 hf k
def f_State_begin (a0 : Nat) (a1 : Nat) (M : AM) : Option (Unit × AM) :=
  wI M a0 0 (gI M a1 1) (fun M1 => wI M1 a0 1 0 (fun M2 => wI M2 a0 2 0 (fun M3 => wI M3 a0 3 0 (fun M4 => wI M4 a0 4 (gI M4 a1 16) (fun M5 => some ((), M5))))))
set_option maxRecDepth 20000 in
theorem t_State_begin {G : GT} {d : Nat} {a0 : Nat} {a1 : Nat} {M : AM} {Q : AM → Option Value → Prop} {r : Unit} {M' : AM} (hW : WT M) (ha0 : kd0 a0 = 9) (ha1 : kd0 a1 = 5) (hf : f_State_begin a0 a1 M = some (r, M')) (k : WT M' → Q M' none)  : Cal G d 79 [.ref a0, .ref a1] M Q := by
  refine A_enter ml_79 rfl ?_
  refine P_aload_n d_79_0 rfl ?_
  refine P_aload_n d_79_1 rfl ?_
  refine A_gI d_79_2 cn_79 fk_CordLoft_State_7 ha1 hW ?_
  refine A_pI d_79_5 cn_79 fp_CordLoft_State_13 ha0 hW hf (fun hW hf => ?_)
  refine P_aload_n d_79_8 rfl ?_
  refine A_iconst d_79_9 ic_0 ?_
  refine A_pI d_79_10 cn_79 fp_CordLoft_State_18 ha0 hW hf (fun hW hf => ?_)
  refine P_aload_n d_79_13 rfl ?_
  refine A_iconst d_79_14 ic_0 ?_
  refine A_pI d_79_15 cn_79 fp_CordLoft_State_21 ha0 hW hf (fun hW hf => ?_)
  refine P_aload_n d_79_18 rfl ?_
  refine A_iconst d_79_19 ic_0 ?_
  refine A_pI d_79_20 cn_79 fp_CordLoft_State_24 ha0 hW hf (fun hW hf => ?_)
  refine P_aload_n d_79_23 rfl ?_
  refine P_aload_n d_79_24 rfl ?_
  refine A_gI d_79_25 cn_79 fk_CordLoft_State_27 ha1 hW ?_
  refine A_pI d_79_28 cn_79 fp_CordLoft_State_30 ha0 hW hf (fun hW hf => ?_)
  exact A_ret d_79_31 mr_79 hW hf k
def f_Acts_forget  (M : AM) : Option (Unit × AM) :=
  rald 41 M 39 (gI M 38 1) (fun x1 => rald 41 M 39 0 (fun x3 => rast 41 M 39 (gI M 38 1) x3 (fun M5 => rast 41 M5 39 0 x1 (fun M6 => wI M6 38 1 0 (fun M7 => wI M7 38 2 0 (fun M8 => some ((), M8)))))))
set_option maxRecDepth 20000 in
theorem t_Acts_forget {G : GT} {d : Nat}  {M : AM} {Q : AM → Option Value → Prop} {r : Unit} {M' : AM} (hW : WT M)  (hf : f_Acts_forget  M = some (r, M')) (k : WT M' → Q M' none)  : Cal G d 80 [.ref 38] M Q := by
  refine A_enter ml_80 rfl ?_
  refine P_aload_n d_80_0 rfl ?_
  refine A_gF d_80_1 cn_80 fk_CordLoft_Acts_11 ft_1_0 k_38 hW ?_
  refine P_aload_n d_80_4 rfl ?_
  refine A_gI d_80_5 cn_80 fk_CordLoft_Acts_16 k_38 hW ?_
  refine A_aald d_80_8 k_39 l_39 hW hf (fun x1 hk2 hf => ?_)
  refine A_astore_n d_80_9 ml_80 rfl rfl ?_
  refine P_aload_n d_80_10 rfl ?_
  refine A_gF d_80_11 cn_80 fk_CordLoft_Acts_11 ft_1_0 k_38 hW ?_
  refine P_aload_n d_80_14 rfl ?_
  refine A_gI d_80_15 cn_80 fk_CordLoft_Acts_16 k_38 hW ?_
  refine P_aload_n d_80_18 rfl ?_
  refine A_gF d_80_19 cn_80 fk_CordLoft_Acts_11 ft_1_0 k_38 hW ?_
  refine A_iconst d_80_22 ic_0 ?_
  refine A_aald d_80_23 k_39 l_39 hW hf (fun x3 hk4 hf => ?_)
  refine A_aast d_80_24 k_39 l_39 hk4 hW hf (fun hW hf => ?_)
  refine P_aload_n d_80_25 rfl ?_
  refine A_gF d_80_26 cn_80 fk_CordLoft_Acts_11 ft_1_0 k_38 hW ?_
  refine A_iconst d_80_29 ic_0 ?_
  refine P_aload_n d_80_30 rfl ?_
  refine A_aast d_80_31 k_39 l_39 hk2 hW hf (fun hW hf => ?_)
  refine P_aload_n d_80_32 rfl ?_
  refine A_iconst d_80_33 ic_0 ?_
  refine A_pI d_80_34 cn_80 fp_CordLoft_Acts_16 k_38 hW hf (fun hW hf => ?_)
  refine P_aload_n d_80_37 rfl ?_
  refine A_iconst d_80_38 ic_0 ?_
  refine A_pI d_80_39 cn_80 fp_CordLoft_Acts_23 k_38 hW hf (fun hW hf => ?_)
  exact A_ret d_80_42 mr_80 hW hf k
def f_Sight_forget  (M : AM) : Option (Unit × AM) :=
  wI M 99 6 0 (fun M1 => some ((), M1))
set_option maxRecDepth 20000 in
theorem t_Sight_forget {G : GT} {d : Nat}  {M : AM} {Q : AM → Option Value → Prop} {r : Unit} {M' : AM} (hW : WT M)  (hf : f_Sight_forget  M = some (r, M')) (k : WT M' → Q M' none)  : Cal G d 81 [.ref 99] M Q := by
  refine A_enter ml_81 rfl ?_
  refine P_aload_n d_81_0 rfl ?_
  refine A_iconst d_81_1 ic_0 ?_
  refine A_pI d_81_2 cn_81 fp_CordLoft_Sight_25 k_99 hW hf (fun hW hf => ?_)
  exact A_ret d_81_5 mr_81 hW hf k
def f_Paths_clearRow  (M : AM) : Option (Unit × AM) :=
  wI M 92 7 0 (fun M1 => some ((), M1))
set_option maxRecDepth 20000 in
theorem t_Paths_clearRow {G : GT} {d : Nat}  {M : AM} {Q : AM → Option Value → Prop} {r : Unit} {M' : AM} (hW : WT M)  (hf : f_Paths_clearRow  M = some (r, M')) (k : WT M' → Q M' none)  : Cal G d 82 [.ref 92] M Q := by
  refine A_enter ml_82 rfl ?_
  refine P_aload_n d_82_0 rfl ?_
  refine A_iconst d_82_1 ic_0 ?_
  refine A_pI d_82_2 cn_82 fp_CordLoft_Paths_32 k_92 hW hf (fun hW hf => ?_)
  exact A_ret d_82_5 mr_82 hW hf k
end
