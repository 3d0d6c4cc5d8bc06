noncomputable section
def f_Mo_four_b3 (rec : Int32 → AM → Option (Unit × AM)) (v1 : Int32) (v2 : Int32) (M : AM) : Option (Unit × AM) :=
  if v2 < 0 then some ((), M) else ast 1600 M 106 (gI M 105 1) ((v1 >>> (v2 &&& 31)) &&& 255) (fun M1 => wI M1 105 1 ((gI M1 105 1) + 1) (fun M2 => rec (v2 + (-8)) M2))
def f_Mo_four_l3 (v1 : Int32) : Nat → Int32 → AM → Option (Unit × AM)
  | 0, _, _ => none
  | n + 1, v2, M => f_Mo_four_b3 (f_Mo_four_l3 v1 n) v1 v2 M
set_option maxRecDepth 20000 in
theorem t_Mo_four_b3 {G : GT} {d : Nat} {v1 : Int32} {v2 : Int32} {M : AM} {Q : AM → Option Value → Prop} {yo : Unit} {Mo : AM} {rec : Int32 → AM → Option (Unit × AM)} (hrec : ∀ (v2 : Int32) (M : AM), WT M → rec v2 M = some (yo, Mo) → PW G d 201 3 [.ref 105, .int v1, .int v2] [] M 0 0 Q) (k1 : WT Mo → PW G d 201 39 [ux, ux, ux] [] Mo 0 0 Q) (hW : WT M)   (hf : f_Mo_four_b3 rec v1 v2 M = some (yo, Mo)) : PW G d 201 3 [.ref 105, .int v1, .int v2] [] M 0 0 Q := by
  refine P_iload_n d_201_3 rfl ?_
  refine A_if_lt (tgt := 39) d_201_4 rfl hf (fun hf => ?_) (fun hf => ?_)
  · refine P_fgt [false, false, false] ?_
    cases hf
    exact k1 hW 
  · refine P_aload_n d_201_7 rfl ?_
    refine A_gF d_201_8 cn_201 fk_CordLoftModel_7 ft_13_0 k_105 hW ?_
    refine P_aload_n d_201_11 rfl ?_
    refine A_gI d_201_12 cn_201 fk_CordLoftModel_112 k_105 hW ?_
    refine P_iload_n d_201_15 rfl ?_
    refine P_iload_n d_201_16 rfl ?_
    refine P_ishr d_201_17 ?_
    refine P_sipush d_201_18 si_255 ?_
    refine P_iand d_201_21 ?_
    refine A_iast d_201_22 k_106 l_106 hW hf (fun hW hf => ?_)
    refine P_aload_n d_201_23 rfl ?_
    refine P_dup d_201_24 rfl ?_
    refine A_gI d_201_25 cn_201 fk_CordLoftModel_112 k_105 hW ?_
    refine A_iconst d_201_28 ic_1 ?_
    refine P_iadd d_201_29 ?_
    refine A_pI d_201_30 cn_201 fp_CordLoftModel_112 k_105 hW hf (fun hW hf => ?_)
    refine A_iinc d_201_33 ic_m8 rfl ml_201 rfl rfl ?_
    refine P_goto (tgt := 3) d_201_36 rfl ?_
    exact hrec _ _ hW  hf
theorem t_Mo_four_l3 {G : GT} {d : Nat} {v1 : Int32} {Q : AM → Option Value → Prop} {yo : Unit} {Mo : AM} (k1 : WT Mo → PW G d 201 39 [ux, ux, ux] [] Mo 0 0 Q)  : ∀ (z : Nat) (v2 : Int32) (M : AM), WT M → f_Mo_four_l3 v1 z v2 M = some (yo, Mo) → PW G d 201 3 [.ref 105, .int v1, .int v2] [] M 0 0 Q := by
  intro z
  induction z with
  | zero => intro v2 M hW hf; cases hf
  | succ z ih => intro v2 M hW hf; exact t_Mo_four_b3 (fun v2 M hW hf => ih v2 M hW hf) k1 hW   hf
def f_Mo_four (a1 : Int32) (M : AM) : Option (Unit × AM) :=
  bnd (f_Mo_four_l3 a1 fu 24 M) (fun y1 M2 => some ((), M2))
set_option maxRecDepth 20000 in
theorem t_Mo_four {G : GT} {d : Nat} {a1 : Int32} {M : AM} {Q : AM → Option Value → Prop} {r : Unit} {M' : AM} (hW : WT M)  (hf : f_Mo_four a1 M = some (r, M')) (k : WT M' → Q M' none)  : Cal G d 201 [.ref 105, .int a1] M Q := by
  refine A_enter ml_201 rfl ?_
  refine P_bipush d_201_0 bi_24 ?_
  refine A_istore_n d_201_2 ml_201 rfl rfl ?_
  obtain ⟨y1, M2, hl, hf⟩ := bnd_some hf
  refine t_Mo_four_l3 (fun hW => ?_)  fu _ _ hW  hl
  exact A_ret d_201_39 mr_201 hW hf k
def f_Mo_feed (a1 : Int32) (a2 : Int32) (a3 : Int32) (a4 : Int32) (a5 : Int32) (M : AM) : Option (Int32 × AM) :=
  if ((gI M 105 1) + 20) ≤ 1600 then bnd (f_Mo_four a1 M) (fun r1 M2 => bnd (f_Mo_four a2 M2) (fun r3 M4 => bnd (f_Mo_four a3 M4) (fun r5 M6 => bnd (f_Mo_four a4 M6) (fun r7 M8 => bnd (f_Mo_four a5 M8) (fun r9 M10 => some (gI M10 105 1, M10)))))) else some ((-1), M)
set_option maxRecDepth 20000 in
theorem t_Mo_feed {G : GT} {d : Nat} {a1 : Int32} {a2 : Int32} {a3 : Int32} {a4 : Int32} {a5 : Int32} {M : AM} {Q : AM → Option Value → Prop} {r : Int32} {M' : AM} (hW : WT M)  (hf : f_Mo_feed a1 a2 a3 a4 a5 M = some (r, M')) (k : WT M' → Q M' (some (.int r)))  : Cal G (d + 1) 200 [.ref 105, .int a1, .int a2, .int a3, .int a4, .int a5] M Q := by
  refine A_enter ml_200 rfl ?_
  refine P_aload_n d_200_0 rfl ?_
  refine A_gI d_200_1 cn_200 fk_CordLoftModel_112 k_105 hW ?_
  refine P_bipush d_200_4 bi_20 ?_
  refine P_iadd d_200_6 ?_
  refine P_sipush d_200_7 si_1600 ?_
  refine A_icmp_le (tgt := 15) d_200_10 rfl hf (fun hf => ?_) (fun hf => ?_)
  · refine P_aload_n d_200_15 rfl ?_
    refine P_iload_n d_200_16 rfl ?_
    refine A_V1 d_200_17 vk_200_115 ml_201 rfl k_105 hW rfl hf (fun r1 M2 hc hf => t_Mo_four hW  hc (fun hW => ?_))
    refine P_aload_n d_200_20 rfl ?_
    refine P_iload_n d_200_21 rfl ?_
    refine A_V1 d_200_22 vk_200_115 ml_201 rfl k_105 hW rfl hf (fun r3 M4 hc hf => t_Mo_four hW  hc (fun hW => ?_))
    refine P_aload_n d_200_25 rfl ?_
    refine P_iload_n d_200_26 rfl ?_
    refine A_V1 d_200_27 vk_200_115 ml_201 rfl k_105 hW rfl hf (fun r5 M6 hc hf => t_Mo_four hW  hc (fun hW => ?_))
    refine P_aload_n d_200_30 rfl ?_
    refine P_iload d_200_31 rfl ?_
    refine A_V1 d_200_33 vk_200_115 ml_201 rfl k_105 hW rfl hf (fun r7 M8 hc hf => t_Mo_four hW  hc (fun hW => ?_))
    refine P_aload_n d_200_36 rfl ?_
    refine P_iload d_200_37 rfl ?_
    refine A_V1 d_200_39 vk_200_115 ml_201 rfl k_105 hW rfl hf (fun r9 M10 hc hf => t_Mo_four hW  hc (fun hW => ?_))
    refine P_aload_n d_200_42 rfl ?_
    refine A_gI d_200_43 cn_200 fk_CordLoftModel_112 k_105 hW ?_
    exact A_iret d_200_46 mr_200 hW hf k
  · refine A_iconst d_200_13 ic_m1 ?_
    exact A_iret d_200_14 mr_200 hW hf k
def f_Mo_end (a1 : Int32) (M : AM) : Option (Int32 × AM) :=
  if a1 < 0 then some ((-1), M) else if a1 ≤ (gI M 105 1) then wI M 105 1 a1 (fun M1 => some (a1, M1)) else some ((-1), M)
set_option maxRecDepth 20000 in
theorem t_Mo_end {G : GT} {d : Nat} {a1 : Int32} {M : AM} {Q : AM → Option Value → Prop} {r : Int32} {M' : AM} (hW : WT M)  (hf : f_Mo_end a1 M = some (r, M')) (k : WT M' → Q M' (some (.int r)))  : Cal G d 202 [.ref 105, .int a1] M Q := by
  refine A_enter ml_202 rfl ?_
  refine P_iload_n d_202_0 rfl ?_
  refine A_if_lt (tgt := 12) d_202_1 rfl hf (fun hf => ?_) (fun hf => ?_)
  · refine A_iconst d_202_12 ic_m1 ?_
    exact A_iret d_202_13 mr_202 hW hf k
  · refine P_iload_n d_202_4 rfl ?_
    refine P_aload_n d_202_5 rfl ?_
    refine A_gI d_202_6 cn_202 fk_CordLoftModel_112 k_105 hW ?_
    refine A_icmp_le (tgt := 14) d_202_9 rfl hf (fun hf => ?_) (fun hf => ?_)
    · refine P_aload_n d_202_14 rfl ?_
      refine P_iload_n d_202_15 rfl ?_
      refine A_pI d_202_16 cn_202 fp_CordLoftModel_112 k_105 hW hf (fun hW hf => ?_)
      refine P_iload_n d_202_19 rfl ?_
      exact A_iret d_202_20 mr_202 hW hf k
    · refine A_iconst d_202_12 ic_m1 ?_
      exact A_iret d_202_13 mr_202 hW hf k
def f_Mo_here (a1 : Int32) (M : AM) : Option (Int32 × AM) :=
  if (gI M 105 5) ≤ ((gI M 105 4) + a1) then some ((-1), M) else ald 1600 M 106 ((gI M 105 4) + a1) (fun x1 => some (x1, M))
set_option maxRecDepth 20000 in
theorem t_Mo_here {G : GT} {d : Nat} {a1 : Int32} {M : AM} {Q : AM → Option Value → Prop} {r : Int32} {M' : AM} (hW : WT M)  (hf : f_Mo_here a1 M = some (r, M')) (k : WT M' → Q M' (some (.int r)))  : Cal G d 206 [.ref 105, .int a1] M Q := by
  refine A_enter ml_206 rfl ?_
  refine P_aload_n d_206_0 rfl ?_
  refine A_gI d_206_1 cn_206 fk_CordLoftModel_119 k_105 hW ?_
  refine P_iload_n d_206_4 rfl ?_
  refine P_iadd d_206_5 ?_
  refine P_aload_n d_206_6 rfl ?_
  refine A_gI d_206_7 cn_206 fk_CordLoftModel_122 k_105 hW ?_
  refine A_icmp_ge (tgt := 27) d_206_10 rfl hf (fun hf => ?_) (fun hf => ?_)
  · refine A_iconst d_206_27 ic_m1 ?_
    exact A_iret d_206_28 mr_206 hW hf k
  · refine P_aload_n d_206_13 rfl ?_
    refine A_gF d_206_14 cn_206 fk_CordLoftModel_7 ft_13_0 k_105 hW ?_
    refine P_aload_n d_206_17 rfl ?_
    refine A_gI d_206_18 cn_206 fk_CordLoftModel_119 k_105 hW ?_
    refine P_iload_n d_206_21 rfl ?_
    refine P_iadd d_206_22 ?_
    refine A_iald d_206_23 k_106 l_106 hW hf (fun hf => ?_)
    refine P_goto (tgt := 28) d_206_24 rfl ?_
    exact A_iret d_206_28 mr_206 hW hf k
def f_Mo_isLetter (a0 : Int32) (M : AM) : Option (Int32 × AM) :=
  if a0 < 97 then some (0, M) else if 122 < a0 then some (0, M) else some (1, M)
set_option maxRecDepth 20000 in
theorem t_Mo_isLetter {G : GT} {d : Nat} {a0 : Int32} {M : AM} {Q : AM → Option Value → Prop} {r : Int32} {M' : AM} (hW : WT M)  (hf : f_Mo_isLetter a0 M = some (r, M')) (k : WT M' → (r = 0 ∨ r = 1) → Q M' (some (.int r)))  : Cal G d 207 [.int a0] M Q := by
  refine A_enter ml_207 rfl ?_
  refine P_iload_n d_207_0 rfl ?_
  refine P_bipush d_207_1 bi_97 ?_
  refine A_icmp_lt (tgt := 16) d_207_3 rfl hf (fun hf => ?_) (fun hf => ?_)
  · refine A_iconst d_207_16 ic_0 ?_
    exact A_zret d_207_17 mr_207 hW (Or.inl rfl) hf k
  · refine P_iload_n d_207_6 rfl ?_
    refine P_bipush d_207_7 bi_122 ?_
    refine A_icmp_gt (tgt := 16) d_207_9 rfl hf (fun hf => ?_) (fun hf => ?_)
    · refine A_iconst d_207_16 ic_0 ?_
      exact A_zret d_207_17 mr_207 hW (Or.inl rfl) hf k
    · refine A_iconst d_207_12 ic_1 ?_
      refine P_goto (tgt := 17) d_207_13 rfl ?_
      exact A_zret d_207_17 mr_207 hW (Or.inr rfl) hf k
def f_Mo_isDigit (a0 : Int32) (M : AM) : Option (Int32 × AM) :=
  if a0 < 48 then some (0, M) else if 57 < a0 then some (0, M) else some (1, M)
set_option maxRecDepth 20000 in
theorem t_Mo_isDigit {G : GT} {d : Nat} {a0 : Int32} {M : AM} {Q : AM → Option Value → Prop} {r : Int32} {M' : AM} (hW : WT M)  (hf : f_Mo_isDigit a0 M = some (r, M')) (k : WT M' → (r = 0 ∨ r = 1) → Q M' (some (.int r)))  : Cal G d 208 [.int a0] M Q := by
  refine A_enter ml_208 rfl ?_
  refine P_iload_n d_208_0 rfl ?_
  refine P_bipush d_208_1 bi_48 ?_
  refine A_icmp_lt (tgt := 16) d_208_3 rfl hf (fun hf => ?_) (fun hf => ?_)
  · refine A_iconst d_208_16 ic_0 ?_
    exact A_zret d_208_17 mr_208 hW (Or.inl rfl) hf k
  · refine P_iload_n d_208_6 rfl ?_
    refine P_bipush d_208_7 bi_57 ?_
    refine A_icmp_gt (tgt := 16) d_208_9 rfl hf (fun hf => ?_) (fun hf => ?_)
    · refine A_iconst d_208_16 ic_0 ?_
      exact A_zret d_208_17 mr_208 hW (Or.inl rfl) hf k
    · refine A_iconst d_208_12 ic_1 ?_
      refine P_goto (tgt := 17) d_208_13 rfl ?_
      exact A_zret d_208_17 mr_208 hW (Or.inr rfl) hf k
def f_Mo_isSign_j66  (M : AM) : Option (Int32 × AM) :=
  some (1, M)
set_option maxRecDepth 20000 in
theorem t_Mo_isSign_j66 {G : GT} {d : Nat}  {M : AM} {Q : AM → Option Value → Prop} {r : Int32} {M' : AM} (k : WT M' → (r = 0 ∨ r = 1) → Q M' (some (.int r))) (hW : WT M)  (hf : f_Mo_isSign_j66  M = some (r, M')) : PW G d 209 66 [ux] [] M 0 0 Q := by
  refine A_iconst d_209_66 ic_1 ?_
  refine P_goto (tgt := 71) d_209_67 rfl ?_
  exact A_zret d_209_71 mr_209 hW (Or.inr rfl) hf k
def f_Mo_isSign (a0 : Int32) (M : AM) : Option (Int32 × AM) :=
  if a0 = 59 then f_Mo_isSign_j66  M else if a0 = 40 then f_Mo_isSign_j66  M else if a0 = 41 then f_Mo_isSign_j66  M else if a0 = 60 then f_Mo_isSign_j66  M else if a0 = 62 then f_Mo_isSign_j66  M else if a0 = 61 then f_Mo_isSign_j66  M else if a0 = 43 then f_Mo_isSign_j66  M else if a0 = 45 then f_Mo_isSign_j66  M else if a0 = 42 then f_Mo_isSign_j66  M else if a0 = 47 then f_Mo_isSign_j66  M else if a0 = 37 then f_Mo_isSign_j66  M else some (0, M)
set_option maxRecDepth 20000 in
theorem t_Mo_isSign {G : GT} {d : Nat} {a0 : Int32} {M : AM} {Q : AM → Option Value → Prop} {r : Int32} {M' : AM} (hW : WT M)  (hf : f_Mo_isSign a0 M = some (r, M')) (k : WT M' → (r = 0 ∨ r = 1) → Q M' (some (.int r)))  : Cal G d 209 [.int a0] M Q := by
  refine A_enter ml_209 rfl ?_
  refine P_iload_n d_209_0 rfl ?_
  refine P_bipush d_209_1 bi_59 ?_
  refine A_icmp_eq (tgt := 66) d_209_3 rfl hf (fun hf => ?_) (fun hf => ?_)
  · refine P_fgt [false] ?_
    exact t_Mo_isSign_j66 k hW  hf
  · refine P_iload_n d_209_6 rfl ?_
    refine P_bipush d_209_7 bi_40 ?_
    refine A_icmp_eq (tgt := 66) d_209_9 rfl hf (fun hf => ?_) (fun hf => ?_)
    · refine P_fgt [false] ?_
      exact t_Mo_isSign_j66 k hW  hf
    · refine P_iload_n d_209_12 rfl ?_
      refine P_bipush d_209_13 bi_41 ?_
      refine A_icmp_eq (tgt := 66) d_209_15 rfl hf (fun hf => ?_) (fun hf => ?_)
      · refine P_fgt [false] ?_
        exact t_Mo_isSign_j66 k hW  hf
      · refine P_iload_n d_209_18 rfl ?_
        refine P_bipush d_209_19 bi_60 ?_
        refine A_icmp_eq (tgt := 66) d_209_21 rfl hf (fun hf => ?_) (fun hf => ?_)
        · refine P_fgt [false] ?_
          exact t_Mo_isSign_j66 k hW  hf
        · refine P_iload_n d_209_24 rfl ?_
          refine P_bipush d_209_25 bi_62 ?_
          refine A_icmp_eq (tgt := 66) d_209_27 rfl hf (fun hf => ?_) (fun hf => ?_)
          · refine P_fgt [false] ?_
            exact t_Mo_isSign_j66 k hW  hf
          · refine P_iload_n d_209_30 rfl ?_
            refine P_bipush d_209_31 bi_61 ?_
            refine A_icmp_eq (tgt := 66) d_209_33 rfl hf (fun hf => ?_) (fun hf => ?_)
            · refine P_fgt [false] ?_
              exact t_Mo_isSign_j66 k hW  hf
            · refine P_iload_n d_209_36 rfl ?_
              refine P_bipush d_209_37 bi_43 ?_
              refine A_icmp_eq (tgt := 66) d_209_39 rfl hf (fun hf => ?_) (fun hf => ?_)
              · refine P_fgt [false] ?_
                exact t_Mo_isSign_j66 k hW  hf
              · refine P_iload_n d_209_42 rfl ?_
                refine P_bipush d_209_43 bi_45 ?_
                refine A_icmp_eq (tgt := 66) d_209_45 rfl hf (fun hf => ?_) (fun hf => ?_)
                · refine P_fgt [false] ?_
                  exact t_Mo_isSign_j66 k hW  hf
                · refine P_iload_n d_209_48 rfl ?_
                  refine P_bipush d_209_49 bi_42 ?_
                  refine A_icmp_eq (tgt := 66) d_209_51 rfl hf (fun hf => ?_) (fun hf => ?_)
                  · refine P_fgt [false] ?_
                    exact t_Mo_isSign_j66 k hW  hf
                  · refine P_iload_n d_209_54 rfl ?_
                    refine P_bipush d_209_55 bi_47 ?_
                    refine A_icmp_eq (tgt := 66) d_209_57 rfl hf (fun hf => ?_) (fun hf => ?_)
                    · refine P_fgt [false] ?_
                      exact t_Mo_isSign_j66 k hW  hf
                    · refine P_iload_n d_209_60 rfl ?_
                      refine P_bipush d_209_61 bi_37 ?_
                      refine A_icmp_ne (tgt := 70) d_209_63 rfl hf (fun hf => ?_) (fun hf => ?_)
                      · refine A_iconst d_209_70 ic_0 ?_
                        exact A_zret d_209_71 mr_209 hW (Or.inl rfl) hf k
                      · refine P_fgt [false] ?_
                        exact t_Mo_isSign_j66 k hW  hf
def f_Mo_token_j232 (v2 : Int32) (M : AM) : Option (Unit × AM) :=
  if (gI M 105 6) = 3 then some ((), M) else wI M 105 4 ((gI M 105 4) + v2) (fun M1 => some ((), M1))
set_option maxRecDepth 20000 in
theorem t_Mo_token_j232 {G : GT} {d : Nat} {v2 : Int32} {M : AM} {Q : AM → Option Value → Prop} {r : Unit} {M' : AM} (k : WT M' → Q M' none) (hW : WT M)  (hf : f_Mo_token_j232 v2 M = some (r, M')) : PW G (d + 1) 205 232 [.ref 105, ux, .int v2] [] M 0 0 Q := by
  refine P_aload_n d_205_232 rfl ?_
  refine A_gI d_205_233 cn_205 fk_CordLoftModel_139 k_105 hW ?_
  refine A_iconst d_205_236 ic_3 ?_
  refine A_icmp_eq (tgt := 250) d_205_237 rfl hf (fun hf => ?_) (fun hf => ?_)
  · exact A_ret d_205_250 mr_205 hW hf k
  · refine P_aload_n d_205_240 rfl ?_
    refine P_dup d_205_241 rfl ?_
    refine A_gI d_205_242 cn_205 fk_CordLoftModel_119 k_105 hW ?_
    refine P_iload_n d_205_245 rfl ?_
    refine P_iadd d_205_246 ?_
    refine A_pI d_205_247 cn_205 fp_CordLoftModel_119 k_105 hW hf (fun hW hf => ?_)
    exact A_ret d_205_250 mr_205 hW hf k
def f_Mo_token_j229 (v2 : Int32) (s1 : Int32) (M : AM) : Option (Unit × AM) :=
  wI M 105 6 s1 (fun M1 => f_Mo_token_j232 v2 M1)
set_option maxRecDepth 20000 in
theorem t_Mo_token_j229 {G : GT} {d : Nat} {v2 : Int32} {s1 : Int32} {M : AM} {Q : AM → Option Value → Prop} {r : Unit} {M' : AM} (k : WT M' → Q M' none) (hW : WT M)  (hf : f_Mo_token_j229 v2 s1 M = some (r, M')) : PW G (d + 1) 205 229 [.ref 105, ux, .int v2] [.int s1, .ref 105] M 0 0 Q := by
  refine A_pI d_205_229 cn_205 fp_CordLoftModel_139 k_105 hW hf (fun hW hf => ?_)
  exact t_Mo_token_j232 k hW  hf
def f_Mo_token_j208 (v2 : Int32) (s1 : Int32) (M : AM) : Option (Unit × AM) :=
  wI M 105 6 s1 (fun M1 => f_Mo_token_j232 v2 M1)
set_option maxRecDepth 20000 in
theorem t_Mo_token_j208 {G : GT} {d : Nat} {v2 : Int32} {s1 : Int32} {M : AM} {Q : AM → Option Value → Prop} {r : Unit} {M' : AM} (k : WT M' → Q M' none) (hW : WT M)  (hf : f_Mo_token_j208 v2 s1 M = some (r, M')) : PW G (d + 1) 205 208 [.ref 105, ux, .int v2] [.int s1, .ref 105] M 0 0 Q := by
  refine A_pI d_205_208 cn_205 fp_CordLoftModel_139 k_105 hW hf (fun hW hf => ?_)
  refine P_goto (tgt := 232) d_205_211 rfl ?_
  exact t_Mo_token_j232 k hW  hf
def f_Mo_token_j203 (v2 : Int32) (M : AM) : Option (Unit × AM) :=
  f_Mo_token_j208 v2 3 M
set_option maxRecDepth 20000 in
theorem t_Mo_token_j203 {G : GT} {d : Nat} {v2 : Int32} {M : AM} {Q : AM → Option Value → Prop} {r : Unit} {M' : AM} (k : WT M' → Q M' none) (hW : WT M)  (hf : f_Mo_token_j203 v2 M = some (r, M')) : PW G (d + 1) 205 203 [.ref 105, ux, .int v2] [.ref 105] M 0 0 Q := by
  refine A_iconst d_205_203 ic_3 ?_
  refine P_goto (tgt := 208) d_205_204 rfl ?_
  exact t_Mo_token_j208 k hW  hf
def f_Mo_token_b144 (rec : Int32 → AM → Option (Int32 × AM))  (v2 : Int32) (M : AM) : Option (Int32 × AM) :=
  bnd (f_Mo_here v2 M) (fun r1 M2 => bnd (f_Mo_isDigit r1 M2) (fun r3 M4 => if r3 = 0 then some (v2, M4) else if 4 ≤ v2 then rec (v2 + 1) M4 else bnd (f_Mo_here v2 M4) (fun r5 M6 => wI M6 105 8 (((10 * (gI M4 105 8)) + r5) - 48) (fun M7 => rec (v2 + 1) M7))))
def f_Mo_token_l144  : Nat → Int32 → AM → Option (Int32 × AM)
  | 0, _, _ => none
  | n + 1, v2, M => f_Mo_token_b144 (f_Mo_token_l144  n)  v2 M
set_option maxRecDepth 20000 in
theorem t_Mo_token_b144 {G : GT} {d : Nat}  {v2 : Int32} {M : AM} {Q : AM → Option Value → Prop} {yo : Int32} {Mo : AM} {rec : Int32 → AM → Option (Int32 × AM)} (hrec : ∀ (v2 : Int32) (M : AM), WT M → rec v2 M = some (yo, Mo) → PW G (d + 1) 205 144 [.ref 105, ux, .int v2] [] M 0 0 Q) (k1 : WT Mo → PW G (d + 1) 205 186 [.ref 105, ux, .int yo] [] Mo 0 0 Q) (hW : WT M)   (hf : f_Mo_token_b144 rec  v2 M = some (yo, Mo)) : PW G (d + 1) 205 144 [.ref 105, ux, .int v2] [] M 0 0 Q := by
  refine P_aload_n d_205_144 rfl ?_
  refine P_iload_n d_205_145 rfl ?_
  refine A_V1 d_205_146 vk_205_125 ml_206 rfl k_105 hW rfl hf (fun r1 M2 hc hf => t_Mo_here hW  hc (fun hW => ?_))
  refine A_S1 d_205_149 sk_205_146 ml_208 rfl rfl hf (fun r3 M4 hc hf => t_Mo_isDigit hW  hc (fun hW hb4 => ?_))
  refine A_if_eq (tgt := 186) d_205_152 rfl hf (fun hf => ?_) (fun hf => ?_)
  · cases hf
    exact k1 hW 
  · refine P_iload_n d_205_155 rfl ?_
    refine A_iconst d_205_156 ic_4 ?_
    refine A_icmp_ge (tgt := 180) d_205_157 rfl hf (fun hf => ?_) (fun hf => ?_)
    · refine A_iinc d_205_180 ic_1 rfl ml_205 rfl rfl ?_
      refine P_goto (tgt := 144) d_205_183 rfl ?_
      exact hrec _ _ hW  hf
    · refine P_aload_n d_205_160 rfl ?_
      refine P_bipush d_205_161 bi_10 ?_
      refine P_aload_n d_205_163 rfl ?_
      refine A_gI d_205_164 cn_205 fk_CordLoftModel_136 k_105 hW ?_
      refine P_imul d_205_167 ?_
      refine P_aload_n d_205_168 rfl ?_
      refine P_iload_n d_205_169 rfl ?_
      refine A_V1 d_205_170 vk_205_125 ml_206 rfl k_105 hW rfl hf (fun r5 M6 hc hf => t_Mo_here hW  hc (fun hW => ?_))
      refine P_iadd d_205_173 ?_
      refine P_bipush d_205_174 bi_48 ?_
      refine P_isub d_205_176 ?_
      refine A_pI d_205_177 cn_205 fp_CordLoftModel_136 k_105 hW hf (fun hW hf => ?_)
      refine A_iinc d_205_180 ic_1 rfl ml_205 rfl rfl ?_
      refine P_goto (tgt := 144) d_205_183 rfl ?_
      exact hrec _ _ hW  hf
theorem t_Mo_token_l144 {G : GT} {d : Nat}  {Q : AM → Option Value → Prop} {yo : Int32} {Mo : AM} (k1 : WT Mo → PW G (d + 1) 205 186 [.ref 105, ux, .int yo] [] Mo 0 0 Q)  : ∀ (z : Nat) (v2 : Int32) (M : AM), WT M → f_Mo_token_l144  z v2 M = some (yo, Mo) → PW G (d + 1) 205 144 [.ref 105, ux, .int v2] [] M 0 0 Q := by
  intro z
  induction z with
  | zero => intro v2 M hW hf; cases hf
  | succ z ih => intro v2 M hW hf; exact t_Mo_token_b144 (fun v2 M hW hf => ih v2 M hW hf) k1 hW   hf
def f_Mo_token_j131 (v2 : Int32) (s1 : Int32) (M : AM) : Option (Unit × AM) :=
  wI M 105 6 s1 (fun M1 => f_Mo_token_j232 v2 M1)
set_option maxRecDepth 20000 in
theorem t_Mo_token_j131 {G : GT} {d : Nat} {v2 : Int32} {s1 : Int32} {M : AM} {Q : AM → Option Value → Prop} {r : Unit} {M' : AM} (k : WT M' → Q M' none) (hW : WT M)  (hf : f_Mo_token_j131 v2 s1 M = some (r, M')) : PW G (d + 1) 205 131 [.ref 105, ux, .int v2] [.int s1, .ref 105] M 0 0 Q := by
  refine A_pI d_205_131 cn_205 fp_CordLoftModel_139 k_105 hW hf (fun hW hf => ?_)
  refine P_goto (tgt := 232) d_205_134 rfl ?_
  exact t_Mo_token_j232 k hW  hf
def f_Mo_token_b78 (rec : Int32 → AM → Option (Int32 × AM))  (v2 : Int32) (M : AM) : Option (Int32 × AM) :=
  bnd (f_Mo_here v2 M) (fun r1 M2 => bnd (f_Mo_isLetter r1 M2) (fun r3 M4 => if r3 = 0 then some (v2, M4) else if 8 ≤ v2 then rec (v2 + 1) M4 else bnd (f_Mo_here v2 M4) (fun r5 M6 => wL M6 105 9 (((gL M4 105 9) <<< ((8 : Int32).toInt64 &&& 63)) ||| ((r5).toInt64)) (fun M7 => rec (v2 + 1) M7))))
def f_Mo_token_l78  : Nat → Int32 → AM → Option (Int32 × AM)
  | 0, _, _ => none
  | n + 1, v2, M => f_Mo_token_b78 (f_Mo_token_l78  n)  v2 M
set_option maxRecDepth 20000 in
theorem t_Mo_token_b78 {G : GT} {d : Nat}  {v2 : Int32} {M : AM} {Q : AM → Option Value → Prop} {yo : Int32} {Mo : AM} {rec : Int32 → AM → Option (Int32 × AM)} (hrec : ∀ (v2 : Int32) (M : AM), WT M → rec v2 M = some (yo, Mo) → PW G (d + 1) 205 78 [.ref 105, ux, .int v2] [] M 0 0 Q) (k1 : WT Mo → PW G (d + 1) 205 119 [.ref 105, ux, .int yo] [] Mo 0 0 Q) (hW : WT M)   (hf : f_Mo_token_b78 rec  v2 M = some (yo, Mo)) : PW G (d + 1) 205 78 [.ref 105, ux, .int v2] [] M 0 0 Q := by
  refine P_aload_n d_205_78 rfl ?_
  refine P_iload_n d_205_79 rfl ?_
  refine A_V1 d_205_80 vk_205_125 ml_206 rfl k_105 hW rfl hf (fun r1 M2 hc hf => t_Mo_here hW  hc (fun hW => ?_))
  refine A_S1 d_205_83 sk_205_142 ml_207 rfl rfl hf (fun r3 M4 hc hf => t_Mo_isLetter hW  hc (fun hW hb4 => ?_))
  refine A_if_eq (tgt := 119) d_205_86 rfl hf (fun hf => ?_) (fun hf => ?_)
  · cases hf
    exact k1 hW 
  · refine P_iload_n d_205_89 rfl ?_
    refine P_bipush d_205_90 bi_8 ?_
    refine A_icmp_ge (tgt := 113) d_205_92 rfl hf (fun hf => ?_) (fun hf => ?_)
    · refine A_iinc d_205_113 ic_1 rfl ml_205 rfl rfl ?_
      refine P_goto (tgt := 78) d_205_116 rfl ?_
      exact hrec _ _ hW  hf
    · refine P_aload_n d_205_95 rfl ?_
      refine P_aload_n d_205_96 rfl ?_
      refine A_gL d_205_97 cn_205 fk_CordLoftModel_132 k_105 hW ?_
      refine P_bipush d_205_100 bi_8 ?_
      refine P_lshl d_205_102 ?_
      refine P_aload_n d_205_103 rfl ?_
      refine P_iload_n d_205_104 rfl ?_
      refine A_V1 d_205_105 vk_205_125 ml_206 rfl k_105 hW rfl hf (fun r5 M6 hc hf => t_Mo_here hW  hc (fun hW => ?_))
      refine P_i2l d_205_108 ?_
      refine P_lor d_205_109 ?_
      refine A_pL d_205_110 cn_205 fp_CordLoftModel_132 k_105 hW hf (fun hW hf => ?_)
      refine A_iinc d_205_113 ic_1 rfl ml_205 rfl rfl ?_
      refine P_goto (tgt := 78) d_205_116 rfl ?_
      exact hrec _ _ hW  hf
theorem t_Mo_token_l78 {G : GT} {d : Nat}  {Q : AM → Option Value → Prop} {yo : Int32} {Mo : AM} (k1 : WT Mo → PW G (d + 1) 205 119 [.ref 105, ux, .int yo] [] Mo 0 0 Q)  : ∀ (z : Nat) (v2 : Int32) (M : AM), WT M → f_Mo_token_l78  z v2 M = some (yo, Mo) → PW G (d + 1) 205 78 [.ref 105, ux, .int v2] [] M 0 0 Q := by
  intro z
  induction z with
  | zero => intro v2 M hW hf; cases hf
  | succ z ih => intro v2 M hW hf; exact t_Mo_token_b78 (fun v2 M hW hf => ih v2 M hW hf) k1 hW   hf
def f_Mo_token_j20 (rec : AM → Option (Unit × AM))  (M : AM) : Option (Unit × AM) :=
  wI M 105 4 ((gI M 105 4) + 1) (fun M1 => rec  M1)
set_option maxRecDepth 20000 in
theorem t_Mo_token_j20 {G : GT} {d : Nat}  {M : AM} {Q : AM → Option Value → Prop} {yo : Unit} {Mo : AM} {rec : AM → Option (Unit × AM)} (hrec : ∀  (M : AM), WT M → rec  M = some (yo, Mo) → PW G (d + 1) 205 0 [.ref 105, ux, ux] [] M 0 0 Q) (k1 : WT Mo → PW G (d + 1) 205 33 [.ref 105, ux, ux] [] Mo 0 0 Q) (hW : WT M)  (hf : f_Mo_token_j20 rec  M = some (yo, Mo)) : PW G (d + 1) 205 20 [.ref 105, ux, ux] [] M 0 0 Q := by
  refine P_aload_n d_205_20 rfl ?_
  refine P_dup d_205_21 rfl ?_
  refine A_gI d_205_22 cn_205 fk_CordLoftModel_119 k_105 hW ?_
  refine A_iconst d_205_25 ic_1 ?_
  refine P_iadd d_205_26 ?_
  refine A_pI d_205_27 cn_205 fp_CordLoftModel_119 k_105 hW hf (fun hW hf => ?_)
  refine P_goto (tgt := 0) d_205_30 rfl ?_
  exact hrec  _ hW  hf
def f_Mo_token_b0 (rec : AM → Option (Unit × AM))   (M : AM) : Option (Unit × AM) :=
  bnd (f_Mo_here 0 M) (fun r1 M2 => if r1 = 32 then f_Mo_token_j20 rec  M2 else bnd (f_Mo_here 0 M2) (fun r3 M4 => if r3 = 10 then f_Mo_token_j20 rec  M4 else some ((), M4)))
def f_Mo_token_l0  : Nat → AM → Option (Unit × AM)
  | 0, _ => none
  | n + 1, M => f_Mo_token_b0 (f_Mo_token_l0  n)   M
set_option maxRecDepth 20000 in
theorem t_Mo_token_b0 {G : GT} {d : Nat}   {M : AM} {Q : AM → Option Value → Prop} {yo : Unit} {Mo : AM} {rec : AM → Option (Unit × AM)} (hrec : ∀  (M : AM), WT M → rec  M = some (yo, Mo) → PW G (d + 1) 205 0 [.ref 105, ux, ux] [] M 0 0 Q) (k1 : WT Mo → PW G (d + 1) 205 33 [.ref 105, ux, ux] [] Mo 0 0 Q) (hW : WT M)   (hf : f_Mo_token_b0 rec   M = some (yo, Mo)) : PW G (d + 1) 205 0 [.ref 105, ux, ux] [] M 0 0 Q := by
  refine P_aload_n d_205_0 rfl ?_
  refine A_iconst d_205_1 ic_0 ?_
  refine A_V1 d_205_2 vk_205_125 ml_206 rfl k_105 hW rfl hf (fun r1 M2 hc hf => t_Mo_here hW  hc (fun hW => ?_))
  refine P_bipush d_205_5 bi_32 ?_
  refine A_icmp_eq (tgt := 20) d_205_7 rfl hf (fun hf => ?_) (fun hf => ?_)
  · exact t_Mo_token_j20 hrec k1 hW  hf
  · refine P_aload_n d_205_10 rfl ?_
    refine A_iconst d_205_11 ic_0 ?_
    refine A_V1 d_205_12 vk_205_125 ml_206 rfl k_105 hW rfl hf (fun r3 M4 hc hf => t_Mo_here hW  hc (fun hW => ?_))
    refine P_bipush d_205_15 bi_10 ?_
    refine A_icmp_ne (tgt := 33) d_205_17 rfl hf (fun hf => ?_) (fun hf => ?_)
    · cases hf
      exact k1 hW 
    · exact t_Mo_token_j20 hrec k1 hW  hf
theorem t_Mo_token_l0 {G : GT} {d : Nat}  {Q : AM → Option Value → Prop} {yo : Unit} {Mo : AM} (k1 : WT Mo → PW G (d + 1) 205 33 [.ref 105, ux, ux] [] Mo 0 0 Q)  : ∀ (z : Nat)  (M : AM), WT M → f_Mo_token_l0  z  M = some (yo, Mo) → PW G (d + 1) 205 0 [.ref 105, ux, ux] [] M 0 0 Q := by
  intro z
  induction z with
  | zero => intro  M hW hf; cases hf
  | succ z ih => intro  M hW hf; exact t_Mo_token_b0 (fun  M hW hf => ih  M hW hf) k1 hW   hf
def f_Mo_token  (M : AM) : Option (Unit × AM) :=
  bnd (f_Mo_token_l0  fu  M) (fun y1 M2 => wI M2 105 7 (gI M2 105 4) (fun M3 => bnd (f_Mo_here 0 M3) (fun r4 M5 => wL M5 105 9 0 (fun M6 => wI M6 105 8 0 (fun M7 => if 0 ≤ r4 then bnd (f_Mo_isLetter r4 M7) (fun r8 M9 => if r8 = 0 then bnd (f_Mo_isDigit r4 M9) (fun r10 M11 => if r10 = 0 then bnd (f_Mo_isSign r4 M11) (fun r12 M13 => if r12 = 0 then f_Mo_token_j229 1 3 M13 else f_Mo_token_j229 1 r4 M13) else bnd (f_Mo_token_l144  fu 0 M11) (fun y14 M15 => if 4 < y14 then f_Mo_token_j203 y14 M15 else bnd (f_Mo_here y14 M15) (fun r16 M17 => bnd (f_Mo_isLetter r16 M17) (fun r18 M19 => if r18 = 0 then f_Mo_token_j208 y14 2 M19 else f_Mo_token_j203 y14 M19)))) else bnd (f_Mo_token_l78  fu 0 M9) (fun y20 M21 => if y20 ≤ 8 then f_Mo_token_j131 y20 1 M21 else f_Mo_token_j131 y20 3 M21)) else wI M7 105 6 0 (fun M22 => f_Mo_token_j232 0 M22))))))
set_option maxRecDepth 20000 in
theorem t_Mo_token {G : GT} {d : Nat}  {M : AM} {Q : AM → Option Value → Prop} {r : Unit} {M' : AM} (hW : WT M)  (hf : f_Mo_token  M = some (r, M')) (k : WT M' → Q M' none)  : Cal G (d + 1) 205 [.ref 105] M Q := by
  refine A_enter ml_205 rfl ?_
  obtain ⟨y1, M2, hl, hf⟩ := bnd_some hf
  refine t_Mo_token_l0 (fun hW => ?_)  fu  _ hW  hl
  refine P_aload_n d_205_33 rfl ?_
  refine P_aload_n d_205_34 rfl ?_
  refine A_gI d_205_35 cn_205 fk_CordLoftModel_119 k_105 hW ?_
  refine A_pI d_205_38 cn_205 fp_CordLoftModel_129 k_105 hW hf (fun hW hf => ?_)
  refine P_aload_n d_205_41 rfl ?_
  refine A_iconst d_205_42 ic_0 ?_
  refine A_V1 d_205_43 vk_205_125 ml_206 rfl k_105 hW rfl hf (fun r4 M5 hc hf => t_Mo_here hW  hc (fun hW => ?_))
  refine A_istore_n d_205_46 ml_205 rfl rfl ?_
  refine A_iconst d_205_47 ic_0 ?_
  refine A_istore_n d_205_48 ml_205 rfl rfl ?_
  refine P_aload_n d_205_49 rfl ?_
  refine P_lconst d_205_50 lc_0 ?_
  refine A_pL d_205_51 cn_205 fp_CordLoftModel_132 k_105 hW hf (fun hW hf => ?_)
  refine P_aload_n d_205_54 rfl ?_
  refine A_iconst d_205_55 ic_0 ?_
  refine A_pI d_205_56 cn_205 fp_CordLoftModel_136 k_105 hW hf (fun hW hf => ?_)
  refine P_iload_n d_205_59 rfl ?_
  refine A_if_ge (tgt := 71) d_205_60 rfl hf (fun hf => ?_) (fun hf => ?_)
  · refine P_iload_n d_205_71 rfl ?_
    refine A_S1 d_205_72 sk_205_142 ml_207 rfl rfl hf (fun r8 M9 hc hf => t_Mo_isLetter hW  hc (fun hW hb9 => ?_))
    refine A_if_eq (tgt := 137) d_205_75 rfl hf (fun hf => ?_) (fun hf => ?_)
    · refine P_iload_n d_205_137 rfl ?_
      refine A_S1 d_205_138 sk_205_146 ml_208 rfl rfl hf (fun r10 M11 hc hf => t_Mo_isDigit hW  hc (fun hW hb11 => ?_))
      refine A_if_eq (tgt := 214) d_205_141 rfl hf (fun hf => ?_) (fun hf => ?_)
      · refine A_iconst d_205_214 ic_1 ?_
        refine A_istore_n d_205_215 ml_205 rfl rfl ?_
        refine P_aload_n d_205_216 rfl ?_
        refine P_iload_n d_205_217 rfl ?_
        refine A_S1 d_205_218 sk_205_149 ml_209 rfl rfl hf (fun r12 M13 hc hf => t_Mo_isSign hW  hc (fun hW hb13 => ?_))
        refine A_if_eq (tgt := 228) d_205_221 rfl hf (fun hf => ?_) (fun hf => ?_)
        · refine A_iconst d_205_228 ic_3 ?_
          refine P_fgt [true, false, true] ?_
          exact t_Mo_token_j229 k hW  hf
        · refine P_iload_n d_205_224 rfl ?_
          refine P_goto (tgt := 229) d_205_225 rfl ?_
          refine P_fgt [true, false, true] ?_
          exact t_Mo_token_j229 k hW  hf
      · obtain ⟨y14, M15, hl, hf⟩ := bnd_some hf
        refine P_fgt [true, false, true] ?_
        refine t_Mo_token_l144 (fun hW => ?_)  fu _ _ hW  hl
        refine P_aload_n d_205_186 rfl ?_
        refine P_iload_n d_205_187 rfl ?_
        refine A_iconst d_205_188 ic_4 ?_
        refine A_icmp_gt (tgt := 203) d_205_189 rfl hf (fun hf => ?_) (fun hf => ?_)
        · exact t_Mo_token_j203 k hW  hf
        · refine P_aload_n d_205_192 rfl ?_
          refine P_iload_n d_205_193 rfl ?_
          refine A_V1 d_205_194 vk_205_125 ml_206 rfl k_105 hW rfl hf (fun r16 M17 hc hf => t_Mo_here hW  hc (fun hW => ?_))
          refine A_S1 d_205_197 sk_205_142 ml_207 rfl rfl hf (fun r18 M19 hc hf => t_Mo_isLetter hW  hc (fun hW hb19 => ?_))
          refine A_if_eq (tgt := 207) d_205_200 rfl hf (fun hf => ?_) (fun hf => ?_)
          · refine A_iconst d_205_207 ic_2 ?_
            exact t_Mo_token_j208 k hW  hf
          · exact t_Mo_token_j203 k hW  hf
    · obtain ⟨y20, M21, hl, hf⟩ := bnd_some hf
      refine P_fgt [true, false, true] ?_
      refine t_Mo_token_l78 (fun hW => ?_)  fu _ _ hW  hl
      refine P_aload_n d_205_119 rfl ?_
      refine P_iload_n d_205_120 rfl ?_
      refine P_bipush d_205_121 bi_8 ?_
      refine A_icmp_le (tgt := 130) d_205_123 rfl hf (fun hf => ?_) (fun hf => ?_)
      · refine A_iconst d_205_130 ic_1 ?_
        exact t_Mo_token_j131 k hW  hf
      · refine A_iconst d_205_126 ic_3 ?_
        refine P_goto (tgt := 131) d_205_127 rfl ?_
        exact t_Mo_token_j131 k hW  hf
  · refine P_aload_n d_205_63 rfl ?_
    refine A_iconst d_205_64 ic_0 ?_
    refine A_pI d_205_65 cn_205 fp_CordLoftModel_139 k_105 hW hf (fun hW hf => ?_)
    refine P_goto (tgt := 232) d_205_68 rfl ?_
    refine P_fgt [true, false, true] ?_
    exact t_Mo_token_j232 k hW  hf
def f_Mo_isWord (a1 : Int64) (M : AM) : Option (Int32 × AM) :=
  if (gI M 105 6) = 1 then if (lg_cmp (gL M 105 9) a1) = 0 then some (1, M) else some (0, M) else some (0, M)
set_option maxRecDepth 20000 in
theorem t_Mo_isWord {G : GT} {d : Nat} {a1 : Int64} {M : AM} {Q : AM → Option Value → Prop} {r : Int32} {M' : AM} (hW : WT M)  (hf : f_Mo_isWord a1 M = some (r, M')) (k : WT M' → (r = 0 ∨ r = 1) → Q M' (some (.int r)))  : Cal G d 211 [.ref 105, .long a1] M Q := by
  refine A_enter ml_211 rfl ?_
  refine P_aload_n d_211_0 rfl ?_
  refine A_gI d_211_1 cn_211 fk_CordLoftModel_139 k_105 hW ?_
  refine A_iconst d_211_4 ic_1 ?_
  refine A_icmp_ne (tgt := 21) d_211_5 rfl hf (fun hf => ?_) (fun hf => ?_)
  · refine A_iconst d_211_21 ic_0 ?_
    exact A_zret d_211_22 mr_211 hW (Or.inl rfl) hf k
  · refine P_aload_n d_211_8 rfl ?_
    refine A_gL d_211_9 cn_211 fk_CordLoftModel_132 k_105 hW ?_
    refine P_lload_n d_211_12 rfl ?_
    refine P_lcmp d_211_13 ?_
    refine A_if_ne (tgt := 21) d_211_14 rfl hf (fun hf => ?_) (fun hf => ?_)
    · refine A_iconst d_211_21 ic_0 ?_
      exact A_zret d_211_22 mr_211 hW (Or.inl rfl) hf k
    · refine A_iconst d_211_17 ic_1 ?_
      refine P_goto (tgt := 22) d_211_18 rfl ?_
      exact A_zret d_211_22 mr_211 hW (Or.inr rfl) hf k
def f_Mo_isOwn_j198  (M : AM) : Option (Int32 × AM) :=
  some (1, M)
set_option maxRecDepth 20000 in
theorem t_Mo_isOwn_j198 {G : GT} {d : Nat}  {M : AM} {Q : AM → Option Value → Prop} {r : Int32} {M' : AM} (k : WT M' → (r = 0 ∨ r = 1) → Q M' (some (.int r))) (hW : WT M)  (hf : f_Mo_isOwn_j198  M = some (r, M')) : PW G d 215 198 [ux] [] M 0 0 Q := by
  refine A_iconst d_215_198 ic_1 ?_
  refine P_goto (tgt := 203) d_215_199 rfl ?_
  exact A_zret d_215_203 mr_215 hW (Or.inr rfl) hf k
def f_Mo_isOwn  (M : AM) : Option (Int32 × AM) :=
  if (lg_cmp (gL M 105 9) 1818324336) = 0 then f_Mo_isOwn_j198  M else if (lg_cmp (gL M 105 9) 7104884) = 0 then f_Mo_isOwn_j198  M else if (lg_cmp (gL M 105 9) 512736130163) = 0 then f_Mo_isOwn_j198  M else if (lg_cmp (gL M 105 9) 1668248164) = 0 then f_Mo_isOwn_j198  M else if (lg_cmp (gL M 105 9) 500186639987) = 0 then f_Mo_isOwn_j198  M else if (lg_cmp (gL M 105 9) 427071599731) = 0 then f_Mo_isOwn_j198  M else if (lg_cmp (gL M 105 9) 1852143732) = 0 then f_Mo_isOwn_j198  M else if (lg_cmp (gL M 105 9) 1685418859) = 0 then f_Mo_isOwn_j198  M else if (lg_cmp (gL M 105 9) 465557353332) = 0 then f_Mo_isOwn_j198  M else if (lg_cmp (gL M 105 9) 444352132211) = 0 then f_Mo_isOwn_j198  M else if (lg_cmp (gL M 105 9) 1685217655) = 0 then f_Mo_isOwn_j198  M else if (lg_cmp (gL M 105 9) 1852137842) = 0 then f_Mo_isOwn_j198  M else if (lg_cmp (gL M 105 9) 427071530099) = 0 then f_Mo_isOwn_j198  M else if (lg_cmp (gL M 105 9) 121450625394034) = 0 then f_Mo_isOwn_j198  M else if (lg_cmp (gL M 105 9) 474214787188) = 0 then f_Mo_isOwn_j198  M else if (lg_cmp (gL M 105 9) 6385252) = 0 then f_Mo_isOwn_j198  M else if (lg_cmp (gL M 105 9) 28530) = 0 then f_Mo_isOwn_j198  M else if (lg_cmp (gL M 105 9) 7237492) = 0 then f_Mo_isOwn_j198  M else some (0, M)
set_option maxRecDepth 20000 in
theorem t_Mo_isOwn {G : GT} {d : Nat}  {M : AM} {Q : AM → Option Value → Prop} {r : Int32} {M' : AM} (hW : WT M)  (hf : f_Mo_isOwn  M = some (r, M')) (k : WT M' → (r = 0 ∨ r = 1) → Q M' (some (.int r)))  : Cal G d 215 [.ref 105] M Q := by
  refine A_enter ml_215 rfl ?_
  refine P_aload_n d_215_0 rfl ?_
  refine A_gL d_215_1 cn_215 fk_CordLoftModel_132 k_105 hW ?_
  refine A_ldc2 d_215_4 cn_215 cl_CordLoftModel_155 ?_
  refine P_lcmp d_215_7 ?_
  refine A_if_eq (tgt := 198) d_215_8 rfl hf (fun hf => ?_) (fun hf => ?_)
  · refine P_fgt [false] ?_
    exact t_Mo_isOwn_j198 k hW  hf
  · refine P_aload_n d_215_11 rfl ?_
    refine A_gL d_215_12 cn_215 fk_CordLoftModel_132 k_105 hW ?_
    refine A_ldc2 d_215_15 cn_215 cl_CordLoftModel_157 ?_
    refine P_lcmp d_215_18 ?_
    refine A_if_eq (tgt := 198) d_215_19 rfl hf (fun hf => ?_) (fun hf => ?_)
    · refine P_fgt [false] ?_
      exact t_Mo_isOwn_j198 k hW  hf
    · refine P_aload_n d_215_22 rfl ?_
      refine A_gL d_215_23 cn_215 fk_CordLoftModel_132 k_105 hW ?_
      refine A_ldc2 d_215_26 cn_215 cl_CordLoftModel_159 ?_
      refine P_lcmp d_215_29 ?_
      refine A_if_eq (tgt := 198) d_215_30 rfl hf (fun hf => ?_) (fun hf => ?_)
      · refine P_fgt [false] ?_
        exact t_Mo_isOwn_j198 k hW  hf
      · refine P_aload_n d_215_33 rfl ?_
        refine A_gL d_215_34 cn_215 fk_CordLoftModel_132 k_105 hW ?_
        refine A_ldc2 d_215_37 cn_215 cl_CordLoftModel_161 ?_
        refine P_lcmp d_215_40 ?_
        refine A_if_eq (tgt := 198) d_215_41 rfl hf (fun hf => ?_) (fun hf => ?_)
        · refine P_fgt [false] ?_
          exact t_Mo_isOwn_j198 k hW  hf
        · refine P_aload_n d_215_44 rfl ?_
          refine A_gL d_215_45 cn_215 fk_CordLoftModel_132 k_105 hW ?_
          refine A_ldc2 d_215_48 cn_215 cl_CordLoftModel_163 ?_
          refine P_lcmp d_215_51 ?_
          refine A_if_eq (tgt := 198) d_215_52 rfl hf (fun hf => ?_) (fun hf => ?_)
          · refine P_fgt [false] ?_
            exact t_Mo_isOwn_j198 k hW  hf
          · refine P_aload_n d_215_55 rfl ?_
            refine A_gL d_215_56 cn_215 fk_CordLoftModel_132 k_105 hW ?_
            refine A_ldc2 d_215_59 cn_215 cl_CordLoftModel_165 ?_
            refine P_lcmp d_215_62 ?_
            refine A_if_eq (tgt := 198) d_215_63 rfl hf (fun hf => ?_) (fun hf => ?_)
            · refine P_fgt [false] ?_
              exact t_Mo_isOwn_j198 k hW  hf
            · refine P_aload_n d_215_66 rfl ?_
              refine A_gL d_215_67 cn_215 fk_CordLoftModel_132 k_105 hW ?_
              refine A_ldc2 d_215_70 cn_215 cl_CordLoftModel_167 ?_
              refine P_lcmp d_215_73 ?_
              refine A_if_eq (tgt := 198) d_215_74 rfl hf (fun hf => ?_) (fun hf => ?_)
              · refine P_fgt [false] ?_
                exact t_Mo_isOwn_j198 k hW  hf
              · refine P_aload_n d_215_77 rfl ?_
                refine A_gL d_215_78 cn_215 fk_CordLoftModel_132 k_105 hW ?_
                refine A_ldc2 d_215_81 cn_215 cl_CordLoftModel_169 ?_
                refine P_lcmp d_215_84 ?_
                refine A_if_eq (tgt := 198) d_215_85 rfl hf (fun hf => ?_) (fun hf => ?_)
                · refine P_fgt [false] ?_
                  exact t_Mo_isOwn_j198 k hW  hf
                · refine P_aload_n d_215_88 rfl ?_
                  refine A_gL d_215_89 cn_215 fk_CordLoftModel_132 k_105 hW ?_
                  refine A_ldc2 d_215_92 cn_215 cl_CordLoftModel_171 ?_
                  refine P_lcmp d_215_95 ?_
                  refine A_if_eq (tgt := 198) d_215_96 rfl hf (fun hf => ?_) (fun hf => ?_)
                  · refine P_fgt [false] ?_
                    exact t_Mo_isOwn_j198 k hW  hf
                  · refine P_aload_n d_215_99 rfl ?_
                    refine A_gL d_215_100 cn_215 fk_CordLoftModel_132 k_105 hW ?_
                    refine A_ldc2 d_215_103 cn_215 cl_CordLoftModel_173 ?_
                    refine P_lcmp d_215_106 ?_
                    refine A_if_eq (tgt := 198) d_215_107 rfl hf (fun hf => ?_) (fun hf => ?_)
                    · refine P_fgt [false] ?_
                      exact t_Mo_isOwn_j198 k hW  hf
                    · refine P_aload_n d_215_110 rfl ?_
                      refine A_gL d_215_111 cn_215 fk_CordLoftModel_132 k_105 hW ?_
                      refine A_ldc2 d_215_114 cn_215 cl_CordLoftModel_175 ?_
                      refine P_lcmp d_215_117 ?_
                      refine A_if_eq (tgt := 198) d_215_118 rfl hf (fun hf => ?_) (fun hf => ?_)
                      · refine P_fgt [false] ?_
                        exact t_Mo_isOwn_j198 k hW  hf
                      · refine P_aload_n d_215_121 rfl ?_
                        refine A_gL d_215_122 cn_215 fk_CordLoftModel_132 k_105 hW ?_
                        refine A_ldc2 d_215_125 cn_215 cl_CordLoftModel_177 ?_
                        refine P_lcmp d_215_128 ?_
                        refine A_if_eq (tgt := 198) d_215_129 rfl hf (fun hf => ?_) (fun hf => ?_)
                        · refine P_fgt [false] ?_
                          exact t_Mo_isOwn_j198 k hW  hf
                        · refine P_aload_n d_215_132 rfl ?_
                          refine A_gL d_215_133 cn_215 fk_CordLoftModel_132 k_105 hW ?_
                          refine A_ldc2 d_215_136 cn_215 cl_CordLoftModel_179 ?_
                          refine P_lcmp d_215_139 ?_
                          refine A_if_eq (tgt := 198) d_215_140 rfl hf (fun hf => ?_) (fun hf => ?_)
                          · refine P_fgt [false] ?_
                            exact t_Mo_isOwn_j198 k hW  hf
                          · refine P_aload_n d_215_143 rfl ?_
                            refine A_gL d_215_144 cn_215 fk_CordLoftModel_132 k_105 hW ?_
                            refine A_ldc2 d_215_147 cn_215 cl_CordLoftModel_181 ?_
                            refine P_lcmp d_215_150 ?_
                            refine A_if_eq (tgt := 198) d_215_151 rfl hf (fun hf => ?_) (fun hf => ?_)
                            · refine P_fgt [false] ?_
                              exact t_Mo_isOwn_j198 k hW  hf
                            · refine P_aload_n d_215_154 rfl ?_
                              refine A_gL d_215_155 cn_215 fk_CordLoftModel_132 k_105 hW ?_
                              refine A_ldc2 d_215_158 cn_215 cl_CordLoftModel_183 ?_
                              refine P_lcmp d_215_161 ?_
                              refine A_if_eq (tgt := 198) d_215_162 rfl hf (fun hf => ?_) (fun hf => ?_)
                              · refine P_fgt [false] ?_
                                exact t_Mo_isOwn_j198 k hW  hf
                              · refine P_aload_n d_215_165 rfl ?_
                                refine A_gL d_215_166 cn_215 fk_CordLoftModel_132 k_105 hW ?_
                                refine A_ldc2 d_215_169 cn_215 cl_CordLoftModel_185 ?_
                                refine P_lcmp d_215_172 ?_
                                refine A_if_eq (tgt := 198) d_215_173 rfl hf (fun hf => ?_) (fun hf => ?_)
                                · refine P_fgt [false] ?_
                                  exact t_Mo_isOwn_j198 k hW  hf
                                · refine P_aload_n d_215_176 rfl ?_
                                  refine A_gL d_215_177 cn_215 fk_CordLoftModel_132 k_105 hW ?_
                                  refine A_ldc2 d_215_180 cn_215 cl_CordLoftModel_187 ?_
                                  refine P_lcmp d_215_183 ?_
                                  refine A_if_eq (tgt := 198) d_215_184 rfl hf (fun hf => ?_) (fun hf => ?_)
                                  · refine P_fgt [false] ?_
                                    exact t_Mo_isOwn_j198 k hW  hf
                                  · refine P_aload_n d_215_187 rfl ?_
                                    refine A_gL d_215_188 cn_215 fk_CordLoftModel_132 k_105 hW ?_
                                    refine A_ldc2 d_215_191 cn_215 cl_CordLoftModel_189 ?_
                                    refine P_lcmp d_215_194 ?_
                                    refine A_if_ne (tgt := 202) d_215_195 rfl hf (fun hf => ?_) (fun hf => ?_)
                                    · refine A_iconst d_215_202 ic_0 ?_
                                      exact A_zret d_215_203 mr_215 hW (Or.inl rfl) hf k
                                    · refine P_fgt [false] ?_
                                      exact t_Mo_isOwn_j198 k hW  hf
def f_Mo_isName  (M : AM) : Option (Int32 × AM) :=
  if (gI M 105 6) = 1 then bnd (f_Mo_isOwn  M) (fun r1 M2 => if r1 = 0 then some (1, M2) else some (0, M2)) else some (0, M)
set_option maxRecDepth 20000 in
theorem t_Mo_isName {G : GT} {d : Nat}  {M : AM} {Q : AM → Option Value → Prop} {r : Int32} {M' : AM} (hW : WT M)  (hf : f_Mo_isName  M = some (r, M')) (k : WT M' → (r = 0 ∨ r = 1) → Q M' (some (.int r)))  : Cal G (d + 1) 214 [.ref 105] M Q := by
  refine A_enter ml_214 rfl ?_
  refine P_aload_n d_214_0 rfl ?_
  refine A_gI d_214_1 cn_214 fk_CordLoftModel_139 k_105 hW ?_
  refine A_iconst d_214_4 ic_1 ?_
  refine A_icmp_ne (tgt := 19) d_214_5 rfl hf (fun hf => ?_) (fun hf => ?_)
  · refine A_iconst d_214_19 ic_0 ?_
    exact A_zret d_214_20 mr_214 hW (Or.inl rfl) hf k
  · refine P_aload_n d_214_8 rfl ?_
    refine A_V0 d_214_9 vk_214_191 ml_215 rfl k_105 hW rfl hf (fun r1 M2 hc hf => t_Mo_isOwn hW  hc (fun hW hb2 => ?_))
    refine A_if_ne (tgt := 19) d_214_12 rfl hf (fun hf => ?_) (fun hf => ?_)
    · refine A_iconst d_214_19 ic_0 ?_
      exact A_zret d_214_20 mr_214 hW (Or.inl rfl) hf k
    · refine A_iconst d_214_15 ic_1 ?_
      refine P_goto (tgt := 20) d_214_16 rfl ?_
      exact A_zret d_214_20 mr_214 hW (Or.inr rfl) hf k
def f_Mo_wrong_j22 (s1 : Int32) (M : AM) : Option (Unit × AM) :=
  wI M 105 2 s1 (fun M1 => wI M1 105 3 (gI M1 105 7) (fun M2 => some ((), M2)))
set_option maxRecDepth 20000 in
theorem t_Mo_wrong_j22 {G : GT} {d : Nat} {s1 : Int32} {M : AM} {Q : AM → Option Value → Prop} {r : Unit} {M' : AM} (k : WT M' → Q M' none) (hW : WT M)  (hf : f_Mo_wrong_j22 s1 M = some (r, M')) : PW G d 216 22 [.ref 105, ux] [.int s1, .ref 105] M 0 0 Q := by
  refine A_pI d_216_22 cn_216 fp_CordLoftModel_152 k_105 hW hf (fun hW hf => ?_)
  refine P_aload_n d_216_25 rfl ?_
  refine P_aload_n d_216_26 rfl ?_
  refine A_gI d_216_27 cn_216 fk_CordLoftModel_129 k_105 hW ?_
  refine A_pI d_216_30 cn_216 fp_CordLoftModel_13 k_105 hW hf (fun hW hf => ?_)
  exact A_ret d_216_33 mr_216 hW hf k
def f_Mo_wrong (a1 : Int32) (M : AM) : Option (Unit × AM) :=
  if (gI M 105 2) ≤ 0 then if (gI M 105 6) = 3 then f_Mo_wrong_j22 1 M else f_Mo_wrong_j22 a1 M else some ((), M)
set_option maxRecDepth 20000 in
theorem t_Mo_wrong {G : GT} {d : Nat} {a1 : Int32} {M : AM} {Q : AM → Option Value → Prop} {r : Unit} {M' : AM} (hW : WT M)  (hf : f_Mo_wrong a1 M = some (r, M')) (k : WT M' → Q M' none)  : Cal G d 216 [.ref 105, .int a1] M Q := by
  refine A_enter ml_216 rfl ?_
  refine P_aload_n d_216_0 rfl ?_
  refine A_gI d_216_1 cn_216 fk_CordLoftModel_152 k_105 hW ?_
  refine A_if_le (tgt := 8) d_216_4 rfl hf (fun hf => ?_) (fun hf => ?_)
  · refine P_aload_n d_216_8 rfl ?_
    refine P_aload_n d_216_9 rfl ?_
    refine A_gI d_216_10 cn_216 fk_CordLoftModel_139 k_105 hW ?_
    refine A_iconst d_216_13 ic_3 ?_
    refine A_icmp_ne (tgt := 21) d_216_14 rfl hf (fun hf => ?_) (fun hf => ?_)
    · refine P_iload_n d_216_21 rfl ?_
      refine P_fgt [true, false] ?_
      exact t_Mo_wrong_j22 k hW  hf
    · refine A_iconst d_216_17 ic_1 ?_
      refine P_goto (tgt := 22) d_216_18 rfl ?_
      refine P_fgt [true, false] ?_
      exact t_Mo_wrong_j22 k hW  hf
  · exact A_ret d_216_7 mr_216 hW hf k
def f_Mo_find_b5 (rec : Int32 → Int32 → AM → Option (Int32 × AM)) (v1 : Int32) (v2 : Int32) (v3 : Int32) (v4 : Int32) (M : AM) : Option (Int32 × AM) :=
  if v2 ≤ v4 then some (v3, M) else lald 16 M 107 (v1 + v4) (fun x1 => if (lg_cmp x1 (gL M 105 9)) = 0 then rec v4 (v4 + 1) M else rec v3 (v4 + 1) M)
def f_Mo_find_l5 (v1 : Int32) (v2 : Int32) : Nat → Int32 → Int32 → AM → Option (Int32 × AM)
  | 0, _, _, _ => none
  | n + 1, v3, v4, M => f_Mo_find_b5 (f_Mo_find_l5 v1 v2 n) v1 v2 v3 v4 M
set_option maxRecDepth 20000 in
theorem t_Mo_find_b5 {G : GT} {d : Nat} {v1 : Int32} {v2 : Int32} {v3 : Int32} {v4 : Int32} {M : AM} {Q : AM → Option Value → Prop} {yo : Int32} {Mo : AM} {rec : Int32 → Int32 → AM → Option (Int32 × AM)} (hrec : ∀ (v3 : Int32) (v4 : Int32) (M : AM), WT M → rec v3 v4 M = some (yo, Mo) → PW G d 217 5 [.ref 105, .int v1, .int v2, .int v3, .int v4] [] M 0 0 Q) (k1 : WT Mo → PW G d 217 41 [ux, ux, ux, .int yo, ux] [] Mo 0 0 Q) (hW : WT M)   (hf : f_Mo_find_b5 rec v1 v2 v3 v4 M = some (yo, Mo)) : PW G d 217 5 [.ref 105, .int v1, .int v2, .int v3, .int v4] [] M 0 0 Q := by
  refine P_iload d_217_5 rfl ?_
  refine P_iload_n d_217_7 rfl ?_
  refine A_icmp_ge (tgt := 41) d_217_8 rfl hf (fun hf => ?_) (fun hf => ?_)
  · refine P_fgt [false, false, false, true, false] ?_
    cases hf
    exact k1 hW 
  · refine P_aload_n d_217_11 rfl ?_
    refine A_gF d_217_12 cn_217 fk_CordLoftModel_17 ft_13_10 k_105 hW ?_
    refine P_iload_n d_217_15 rfl ?_
    refine P_iload d_217_16 rfl ?_
    refine P_iadd d_217_18 ?_
    refine A_lald d_217_19 k_107 l_107 hW hf (fun hf => ?_)
    refine P_aload_n d_217_20 rfl ?_
    refine A_gL d_217_21 cn_217 fk_CordLoftModel_132 k_105 hW ?_
    refine P_lcmp d_217_24 ?_
    refine A_if_ne (tgt := 33) d_217_25 rfl hf (fun hf => ?_) (fun hf => ?_)
    · refine P_iload_n d_217_33 rfl ?_
      refine A_istore_n d_217_34 ml_217 rfl rfl ?_
      refine A_iinc d_217_35 ic_1 rfl ml_217 rfl rfl ?_
      refine P_goto (tgt := 5) d_217_38 rfl ?_
      exact hrec _ _ _ hW  hf
    · refine P_iload d_217_28 rfl ?_
      refine P_goto (tgt := 34) d_217_30 rfl ?_
      refine A_istore_n d_217_34 ml_217 rfl rfl ?_
      refine A_iinc d_217_35 ic_1 rfl ml_217 rfl rfl ?_
      refine P_goto (tgt := 5) d_217_38 rfl ?_
      exact hrec _ _ _ hW  hf
theorem t_Mo_find_l5 {G : GT} {d : Nat} {v1 : Int32} {v2 : Int32} {Q : AM → Option Value → Prop} {yo : Int32} {Mo : AM} (k1 : WT Mo → PW G d 217 41 [ux, ux, ux, .int yo, ux] [] Mo 0 0 Q)  : ∀ (z : Nat) (v3 : Int32) (v4 : Int32) (M : AM), WT M → f_Mo_find_l5 v1 v2 z v3 v4 M = some (yo, Mo) → PW G d 217 5 [.ref 105, .int v1, .int v2, .int v3, .int v4] [] M 0 0 Q := by
  intro z
  induction z with
  | zero => intro v3 v4 M hW hf; cases hf
  | succ z ih => intro v3 v4 M hW hf; exact t_Mo_find_b5 (fun v3 v4 M hW hf => ih v3 v4 M hW hf) k1 hW   hf
def f_Mo_find (a1 : Int32) (a2 : Int32) (M : AM) : Option (Int32 × AM) :=
  bnd (f_Mo_find_l5 a1 a2 fu (-1) 0 M) (fun y1 M2 => some (y1, M2))
set_option maxRecDepth 20000 in
theorem t_Mo_find {G : GT} {d : Nat} {a1 : Int32} {a2 : Int32} {M : AM} {Q : AM → Option Value → Prop} {r : Int32} {M' : AM} (hW : WT M)  (hf : f_Mo_find a1 a2 M = some (r, M')) (k : WT M' → Q M' (some (.int r)))  : Cal G d 217 [.ref 105, .int a1, .int a2] M Q := by
  refine A_enter ml_217 rfl ?_
  refine A_iconst d_217_0 ic_m1 ?_
  refine A_istore_n d_217_1 ml_217 rfl rfl ?_
  refine A_iconst d_217_2 ic_0 ?_
  refine A_istore d_217_3 ml_217 rfl rfl ?_
  obtain ⟨y1, M2, hl, hf⟩ := bnd_some hf
  refine t_Mo_find_l5 (fun hW => ?_)  fu _ _ _ hW  hl
  refine P_iload_n d_217_41 rfl ?_
  exact A_iret d_217_42 mr_217 hW hf k
def f_Mo_newName_j33 (v1 : Int32) (v2 : Int32) (M : AM) : Option (Unit × AM) :=
  if (gI M 105 2) ≤ 0 then last' 16 M 107 (v1 + v2) (gL M 105 9) (fun M1 => bnd (f_Mo_token  M1) (fun r2 M3 => some ((), M3))) else some ((), M)
set_option maxRecDepth 20000 in
theorem t_Mo_newName_j33 {G : GT} {d : Nat} {v1 : Int32} {v2 : Int32} {M : AM} {Q : AM → Option Value → Prop} {r : Unit} {M' : AM} (k : WT M' → Q M' none) (hW : WT M)  (hf : f_Mo_newName_j33 v1 v2 M = some (r, M')) : PW G (d + 2) 213 33 [.ref 105, .int v1, .int v2] [] M 0 0 Q := by
  refine P_aload_n d_213_33 rfl ?_
  refine A_gI d_213_34 cn_213 fk_CordLoftModel_152 k_105 hW ?_
  refine A_if_le (tgt := 41) d_213_37 rfl hf (fun hf => ?_) (fun hf => ?_)
  · refine P_aload_n d_213_41 rfl ?_
    refine A_gF d_213_42 cn_213 fk_CordLoftModel_17 ft_13_10 k_105 hW ?_
    refine P_iload_n d_213_45 rfl ?_
    refine P_iload_n d_213_46 rfl ?_
    refine P_iadd d_213_47 ?_
    refine P_aload_n d_213_48 rfl ?_
    refine A_gL d_213_49 cn_213 fk_CordLoftModel_132 k_105 hW ?_
    refine A_last d_213_52 k_107 l_107 hW hf (fun hW hf => ?_)
    refine P_aload_n d_213_53 rfl ?_
    refine A_V0 d_213_54 vk_213_202 ml_205 rfl k_105 hW rfl hf (fun r2 M3 hc hf => t_Mo_token hW  hc (fun hW => ?_))
    exact A_ret d_213_57 mr_213 hW hf k
  · exact A_ret d_213_40 mr_213 hW hf k
def f_Mo_newName (a1 : Int32) (a2 : Int32) (M : AM) : Option (Unit × AM) :=
  bnd (f_Mo_token  M) (fun r1 M2 => bnd (f_Mo_isName  M2) (fun r3 M4 => if r3 = 0 then bnd (f_Mo_wrong 2 M4) (fun r9 M10 => f_Mo_newName_j33 a1 a2 M10) else bnd (f_Mo_find a1 a2 M4) (fun r5 M6 => if r5 < 0 then f_Mo_newName_j33 a1 a2 M6 else bnd (f_Mo_wrong 3 M6) (fun r7 M8 => f_Mo_newName_j33 a1 a2 M8))))
set_option maxRecDepth 20000 in
theorem t_Mo_newName {G : GT} {d : Nat} {a1 : Int32} {a2 : Int32} {M : AM} {Q : AM → Option Value → Prop} {r : Unit} {M' : AM} (hW : WT M)  (hf : f_Mo_newName a1 a2 M = some (r, M')) (k : WT M' → Q M' none)  : Cal G (d + 2) 213 [.ref 105, .int a1, .int a2] M Q := by
  refine A_enter ml_213 rfl ?_
  refine P_aload_n d_213_0 rfl ?_
  refine A_V0 d_213_1 vk_213_202 ml_205 rfl k_105 hW rfl hf (fun r1 M2 hc hf => t_Mo_token hW  hc (fun hW => ?_))
  refine P_aload_n d_213_4 rfl ?_
  refine A_V0 d_213_5 vk_213_217 ml_214 rfl k_105 hW rfl hf (fun r3 M4 hc hf => t_Mo_isName hW  hc (fun hW hb4 => ?_))
  refine A_if_ne (tgt := 19) d_213_8 rfl hf (fun hf => ?_) (fun hf => ?_)
  · refine P_aload_n d_213_19 rfl ?_
    refine P_iload_n d_213_20 rfl ?_
    refine P_iload_n d_213_21 rfl ?_
    refine A_V2 d_213_22 vk_213_220 ml_217 rfl k_105 hW rfl hf (fun r5 M6 hc hf => t_Mo_find hW  hc (fun hW => ?_))
    refine A_if_lt (tgt := 33) d_213_25 rfl hf (fun hf => ?_) (fun hf => ?_)
    · exact t_Mo_newName_j33 k hW  hf
    · refine P_aload_n d_213_28 rfl ?_
      refine A_iconst d_213_29 ic_3 ?_
      refine A_V1 d_213_30 vk_213_199 ml_216 rfl k_105 hW rfl hf (fun r7 M8 hc hf => t_Mo_wrong hW  hc (fun hW => ?_))
      exact t_Mo_newName_j33 k hW  hf
  · refine P_aload_n d_213_11 rfl ?_
    refine A_iconst d_213_12 ic_2 ?_
    refine A_V1 d_213_13 vk_213_199 ml_216 rfl k_105 hW rfl hf (fun r9 M10 hc hf => t_Mo_wrong hW  hc (fun hW => ?_))
    refine P_goto (tgt := 33) d_213_16 rfl ?_
    exact t_Mo_newName_j33 k hW  hf
def f_Mo_want (a1 : Int64) (M : AM) : Option (Unit × AM) :=
  if (gI M 105 2) ≤ 0 then bnd (f_Mo_isWord a1 M) (fun r1 M2 => if r1 = 0 then bnd (f_Mo_wrong 2 M2) (fun r5 M6 => some ((), M6)) else bnd (f_Mo_token  M2) (fun r3 M4 => some ((), M4))) else some ((), M)
set_option maxRecDepth 20000 in
theorem t_Mo_want {G : GT} {d : Nat} {a1 : Int64} {M : AM} {Q : AM → Option Value → Prop} {r : Unit} {M' : AM} (hW : WT M)  (hf : f_Mo_want a1 M = some (r, M')) (k : WT M' → Q M' none)  : Cal G (d + 2) 220 [.ref 105, .long a1] M Q := by
  refine A_enter ml_220 rfl ?_
  refine P_aload_n d_220_0 rfl ?_
  refine A_gI d_220_1 cn_220 fk_CordLoftModel_152 k_105 hW ?_
  refine A_if_le (tgt := 8) d_220_4 rfl hf (fun hf => ?_) (fun hf => ?_)
  · refine P_aload_n d_220_8 rfl ?_
    refine P_lload_n d_220_9 rfl ?_
    refine A_V1 d_220_10 vk_220_195 ml_211 rfl k_105 hW rfl hf (fun r1 M2 hc hf => t_Mo_isWord hW  hc (fun hW hb2 => ?_))
    refine A_if_ne (tgt := 24) d_220_13 rfl hf (fun hf => ?_) (fun hf => ?_)
    · refine P_aload_n d_220_24 rfl ?_
      refine A_V0 d_220_25 vk_220_202 ml_205 rfl k_105 hW rfl hf (fun r3 M4 hc hf => t_Mo_token hW  hc (fun hW => ?_))
      exact A_ret d_220_28 mr_220 hW hf k
    · refine P_aload_n d_220_16 rfl ?_
      refine A_iconst d_220_17 ic_2 ?_
      refine A_V1 d_220_18 vk_220_199 ml_216 rfl k_105 hW rfl hf (fun r5 M6 hc hf => t_Mo_wrong hW  hc (fun hW => ?_))
      refine P_goto (tgt := 28) d_220_21 rfl ?_
      exact A_ret d_220_28 mr_220 hW hf k
  · exact A_ret d_220_7 mr_220 hW hf k
def f_Mo_toldNumber_j46  (M : AM) : Option (Int32 × AM) :=
  if (gI M 105 2) = 0 then bnd (f_Mo_token  M) (fun r1 M2 => some (gI M 105 8, M2)) else some (gI M 105 8, M)
set_option maxRecDepth 20000 in
theorem t_Mo_toldNumber_j46 {G : GT} {d : Nat}  {M : AM} {Q : AM → Option Value → Prop} {r : Int32} {M' : AM} (k : WT M' → Q M' (some (.int r))) (hW : WT M)  (hf : f_Mo_toldNumber_j46  M = some (r, M')) : PW G (d + 2) 221 46 [.ref 105, ux, ux, ux] [] M 0 0 Q := by
  refine P_aload_n d_221_46 rfl ?_
  refine A_gI d_221_47 cn_221 fk_CordLoftModel_136 k_105 hW ?_
  refine A_istore_n d_221_50 ml_221 rfl rfl ?_
  refine P_aload_n d_221_51 rfl ?_
  refine A_gI d_221_52 cn_221 fk_CordLoftModel_152 k_105 hW ?_
  refine A_if_ne (tgt := 62) d_221_55 rfl hf (fun hf => ?_) (fun hf => ?_)
  · refine P_iload_n d_221_62 rfl ?_
    exact A_iret d_221_63 mr_221 hW hf k
  · refine P_aload_n d_221_58 rfl ?_
    refine A_V0 d_221_59 vk_221_202 ml_205 rfl k_105 hW rfl hf (fun r1 M2 hc hf => t_Mo_token hW  hc (fun hW => ?_))
    refine P_iload_n d_221_62 rfl ?_
    exact A_iret d_221_63 mr_221 hW hf k
def f_Mo_toldNumber_j41  (M : AM) : Option (Int32 × AM) :=
  bnd (f_Mo_wrong 4 M) (fun r1 M2 => f_Mo_toldNumber_j46  M2)
set_option maxRecDepth 20000 in
theorem t_Mo_toldNumber_j41 {G : GT} {d : Nat}  {M : AM} {Q : AM → Option Value → Prop} {r : Int32} {M' : AM} (k : WT M' → Q M' (some (.int r))) (hW : WT M)  (hf : f_Mo_toldNumber_j41  M = some (r, M')) : PW G (d + 2) 221 41 [.ref 105, ux, ux, ux] [] M 0 0 Q := by
  refine P_aload_n d_221_41 rfl ?_
  refine A_iconst d_221_42 ic_4 ?_
  refine A_V1 d_221_43 vk_221_199 ml_216 rfl k_105 hW rfl hf (fun r1 M2 hc hf => t_Mo_wrong hW  hc (fun hW => ?_))
  exact t_Mo_toldNumber_j46 k hW  hf
def f_Mo_toldNumber (a1 : Int32) (a2 : Int32) (M : AM) : Option (Int32 × AM) :=
  if (gI M 105 2) ≤ 0 then if (gI M 105 6) = 2 then if (gI M 105 8) < a1 then f_Mo_toldNumber_j41  M else if (gI M 105 8) ≤ a2 then f_Mo_toldNumber_j46  M else f_Mo_toldNumber_j41  M else bnd (f_Mo_wrong 2 M) (fun r1 M2 => f_Mo_toldNumber_j46  M2) else some (0, M)
set_option maxRecDepth 20000 in
theorem t_Mo_toldNumber {G : GT} {d : Nat} {a1 : Int32} {a2 : Int32} {M : AM} {Q : AM → Option Value → Prop} {r : Int32} {M' : AM} (hW : WT M)  (hf : f_Mo_toldNumber a1 a2 M = some (r, M')) (k : WT M' → Q M' (some (.int r)))  : Cal G (d + 2) 221 [.ref 105, .int a1, .int a2] M Q := by
  refine A_enter ml_221 rfl ?_
  refine P_aload_n d_221_0 rfl ?_
  refine A_gI d_221_1 cn_221 fk_CordLoftModel_152 k_105 hW ?_
  refine A_if_le (tgt := 9) d_221_4 rfl hf (fun hf => ?_) (fun hf => ?_)
  · refine P_aload_n d_221_9 rfl ?_
    refine A_gI d_221_10 cn_221 fk_CordLoftModel_139 k_105 hW ?_
    refine A_iconst d_221_13 ic_2 ?_
    refine A_icmp_eq (tgt := 25) d_221_14 rfl hf (fun hf => ?_) (fun hf => ?_)
    · refine P_aload_n d_221_25 rfl ?_
      refine A_gI d_221_26 cn_221 fk_CordLoftModel_136 k_105 hW ?_
      refine P_iload_n d_221_29 rfl ?_
      refine A_icmp_lt (tgt := 41) d_221_30 rfl hf (fun hf => ?_) (fun hf => ?_)
      · refine P_fgt [true, false, false, false] ?_
        exact t_Mo_toldNumber_j41 k hW  hf
      · refine P_aload_n d_221_33 rfl ?_
        refine A_gI d_221_34 cn_221 fk_CordLoftModel_136 k_105 hW ?_
        refine P_iload_n d_221_37 rfl ?_
        refine A_icmp_le (tgt := 46) d_221_38 rfl hf (fun hf => ?_) (fun hf => ?_)
        · refine P_fgt [true, false, false, false] ?_
          exact t_Mo_toldNumber_j46 k hW  hf
        · refine P_fgt [true, false, false, false] ?_
          exact t_Mo_toldNumber_j41 k hW  hf
    · refine P_aload_n d_221_17 rfl ?_
      refine A_iconst d_221_18 ic_2 ?_
      refine A_V1 d_221_19 vk_221_199 ml_216 rfl k_105 hW rfl hf (fun r1 M2 hc hf => t_Mo_wrong hW  hc (fun hW => ?_))
      refine P_goto (tgt := 46) d_221_22 rfl ?_
      refine P_fgt [true, false, false, false] ?_
      exact t_Mo_toldNumber_j46 k hW  hf
  · refine A_iconst d_221_7 ic_0 ?_
    exact A_iret d_221_8 mr_221 hW hf k
def f_Mo_told (a1 : Int64) (a2 : Int32) (a3 : Int32) (M : AM) : Option (Int32 × AM) :=
  bnd (f_Mo_want a1 M) (fun r1 M2 => bnd (f_Mo_toldNumber a2 a3 M2) (fun r3 M4 => some (r3, M4)))
set_option maxRecDepth 20000 in
theorem t_Mo_told {G : GT} {d : Nat} {a1 : Int64} {a2 : Int32} {a3 : Int32} {M : AM} {Q : AM → Option Value → Prop} {r : Int32} {M' : AM} (hW : WT M)  (hf : f_Mo_told a1 a2 a3 M = some (r, M')) (k : WT M' → Q M' (some (.int r)))  : Cal G (d + 3) 219 [.ref 105, .long a1, .int a2, .int a3] M Q := by
  refine A_enter ml_219 rfl ?_
  refine P_aload_n d_219_0 rfl ?_
  refine P_lload_n d_219_1 rfl ?_
  refine A_V1 d_219_2 vk_219_205 ml_220 rfl k_105 hW rfl hf (fun r1 M2 hc hf => t_Mo_want hW  hc (fun hW => ?_))
  refine P_aload_n d_219_5 rfl ?_
  refine P_iload_n d_219_6 rfl ?_
  refine P_iload d_219_7 rfl ?_
  refine A_V2 d_219_9 vk_219_209 ml_221 rfl k_105 hW rfl hf (fun r3 M4 hc hf => t_Mo_toldNumber hW  hc (fun hW => ?_))
  exact A_iret d_219_12 mr_219 hW hf k
def f_Mo_mayTell (a1 : Int64) (a2 : Int32) (M : AM) : Option (Int32 × AM) :=
  if (gI M 105 2) = 0 then bnd (f_Mo_isWord a1 M) (fun r1 M2 => if r1 = 0 then some (1, M2) else bnd (f_Mo_told a1 0 a2 M2) (fun r3 M4 => some (r3, M4))) else some (1, M)
set_option maxRecDepth 20000 in
theorem t_Mo_mayTell {G : GT} {d : Nat} {a1 : Int64} {a2 : Int32} {M : AM} {Q : AM → Option Value → Prop} {r : Int32} {M' : AM} (hW : WT M)  (hf : f_Mo_mayTell a1 a2 M = some (r, M')) (k : WT M' → Q M' (some (.int r)))  : Cal G (d + 4) 218 [.ref 105, .long a1, .int a2] M Q := by
  refine A_enter ml_218 rfl ?_
  refine P_aload_n d_218_0 rfl ?_
  refine A_gI d_218_1 cn_218 fk_CordLoftModel_152 k_105 hW ?_
  refine A_if_ne (tgt := 25) d_218_4 rfl hf (fun hf => ?_) (fun hf => ?_)
  · refine A_iconst d_218_25 ic_1 ?_
    exact A_iret d_218_26 mr_218 hW hf k
  · refine P_aload_n d_218_7 rfl ?_
    refine P_lload_n d_218_8 rfl ?_
    refine A_V1 d_218_9 vk_218_195 ml_211 rfl k_105 hW rfl hf (fun r1 M2 hc hf => t_Mo_isWord hW  hc (fun hW hb2 => ?_))
    refine A_if_eq (tgt := 25) d_218_12 rfl hf (fun hf => ?_) (fun hf => ?_)
    · refine A_iconst d_218_25 ic_1 ?_
      exact A_iret d_218_26 mr_218 hW hf k
    · refine P_aload_n d_218_15 rfl ?_
      refine P_lload_n d_218_16 rfl ?_
      refine A_iconst d_218_17 ic_0 ?_
      refine P_iload_n d_218_18 rfl ?_
      refine A_V3 d_218_19 vk_218_213 ml_219 rfl k_105 hW rfl hf (fun r3 M4 hc hf => t_Mo_told hW  hc (fun hW => ?_))
      refine P_goto (tgt := 26) d_218_22 rfl ?_
      exact A_iret d_218_26 mr_218 hW hf k
def f_Mo_readLamp_j46  (M : AM) : Option (Unit × AM) :=
  bnd (f_Mo_mayTell 512736130163 99 M) (fun r1 M2 => ast 8 M2 115 (gI M 105 35) r1 (fun M3 => ast 8 M3 116 (gI M3 105 35) 0 (fun M4 => if (gI M4 105 2) = 0 then wI M4 105 35 ((gI M4 105 35) + 1) (fun M5 => some ((), M5)) else some ((), M4))))
set_option maxRecDepth 20000 in
theorem t_Mo_readLamp_j46 {G : GT} {d : Nat}  {M : AM} {Q : AM → Option Value → Prop} {r : Unit} {M' : AM} (k : WT M' → Q M' none) (hW : WT M)  (hf : f_Mo_readLamp_j46  M = some (r, M')) : PW G (d + 5) 212 46 [.ref 105] [] M 0 0 Q := by
  refine P_aload_n d_212_46 rfl ?_
  refine A_gF d_212_47 cn_212 fk_CordLoftModel_42 ft_13_27 k_105 hW ?_
  refine P_aload_n d_212_50 rfl ?_
  refine A_gI d_212_51 cn_212 fk_CordLoftModel_223 k_105 hW ?_
  refine P_aload_n d_212_54 rfl ?_
  refine A_ldc2 d_212_55 cn_212 cl_CordLoftModel_159 ?_
  refine P_bipush d_212_58 bi_99 ?_
  refine A_V2 d_212_60 vk_212_316 ml_218 rfl k_105 hW rfl hf (fun r1 M2 hc hf => t_Mo_mayTell hW  hc (fun hW => ?_))
  refine A_iast d_212_63 k_115 l_115 hW hf (fun hW hf => ?_)
  refine P_aload_n d_212_64 rfl ?_
  refine A_gF d_212_65 cn_212 fk_CordLoftModel_45 ft_13_28 k_105 hW ?_
  refine P_aload_n d_212_68 rfl ?_
  refine A_gI d_212_69 cn_212 fk_CordLoftModel_223 k_105 hW ?_
  refine A_iconst d_212_72 ic_0 ?_
  refine A_iast d_212_73 k_116 l_116 hW hf (fun hW hf => ?_)
  refine P_aload_n d_212_74 rfl ?_
  refine A_gI d_212_75 cn_212 fk_CordLoftModel_152 k_105 hW ?_
  refine A_if_ne (tgt := 91) d_212_78 rfl hf (fun hf => ?_) (fun hf => ?_)
  · exact A_ret d_212_91 mr_212 hW hf k
  · refine P_aload_n d_212_81 rfl ?_
    refine P_dup d_212_82 rfl ?_
    refine A_gI d_212_83 cn_212 fk_CordLoftModel_223 k_105 hW ?_
    refine A_iconst d_212_86 ic_1 ?_
    refine P_iadd d_212_87 ?_
    refine A_pI d_212_88 cn_212 fp_CordLoftModel_223 k_105 hW hf (fun hW hf => ?_)
    exact A_ret d_212_91 mr_212 hW hf k
def f_Mo_readLamp  (M : AM) : Option (Unit × AM) :=
  bnd (f_Mo_newName 0 (gI M 105 35) M) (fun r1 M2 => if (gI M2 105 2) ≤ 0 then bnd (f_Mo_isWord 7104884 M2) (fun r3 M4 => if r3 = 0 then f_Mo_readLamp_j46  M4 else wI M4 105 37 ((gI M4 105 37) ||| ((1 : Int32) <<< ((gI M4 105 35) &&& 31))) (fun M5 => bnd (f_Mo_token  M5) (fun r6 M7 => f_Mo_readLamp_j46  M7))) else some ((), M2))
set_option maxRecDepth 20000 in
theorem t_Mo_readLamp {G : GT} {d : Nat}  {M : AM} {Q : AM → Option Value → Prop} {r : Unit} {M' : AM} (hW : WT M)  (hf : f_Mo_readLamp  M = some (r, M')) (k : WT M' → Q M' none)  : Cal G (d + 5) 212 [.ref 105] M Q := by
  refine A_enter ml_212 rfl ?_
  refine P_aload_n d_212_0 rfl ?_
  refine A_iconst d_212_1 ic_0 ?_
  refine P_aload_n d_212_2 rfl ?_
  refine A_gI d_212_3 cn_212 fk_CordLoftModel_223 k_105 hW ?_
  refine A_V2 d_212_6 vk_212_310 ml_213 rfl k_105 hW rfl hf (fun r1 M2 hc hf => t_Mo_newName hW  hc (fun hW => ?_))
  refine P_aload_n d_212_9 rfl ?_
  refine A_gI d_212_10 cn_212 fk_CordLoftModel_152 k_105 hW ?_
  refine A_if_le (tgt := 17) d_212_13 rfl hf (fun hf => ?_) (fun hf => ?_)
  · refine P_aload_n d_212_17 rfl ?_
    refine A_ldc2 d_212_18 cn_212 cl_CordLoftModel_157 ?_
    refine A_V1 d_212_21 vk_212_195 ml_211 rfl k_105 hW rfl hf (fun r3 M4 hc hf => t_Mo_isWord hW  hc (fun hW hb4 => ?_))
    refine A_if_eq (tgt := 46) d_212_24 rfl hf (fun hf => ?_) (fun hf => ?_)
    · exact t_Mo_readLamp_j46 k hW  hf
    · refine P_aload_n d_212_27 rfl ?_
      refine P_dup d_212_28 rfl ?_
      refine A_gI d_212_29 cn_212 fk_CordLoftModel_313 k_105 hW ?_
      refine A_iconst d_212_32 ic_1 ?_
      refine P_aload_n d_212_33 rfl ?_
      refine A_gI d_212_34 cn_212 fk_CordLoftModel_223 k_105 hW ?_
      refine P_ishl d_212_37 ?_
      refine P_ior d_212_38 ?_
      refine A_pI d_212_39 cn_212 fp_CordLoftModel_313 k_105 hW hf (fun hW hf => ?_)
      refine P_aload_n d_212_42 rfl ?_
      refine A_V0 d_212_43 vk_212_202 ml_205 rfl k_105 hW rfl hf (fun r6 M7 hc hf => t_Mo_token hW  hc (fun hW => ?_))
      exact t_Mo_readLamp_j46 k hW  hf
  · exact A_ret d_212_16 mr_212 hW hf k
def f_Mo_oldLamp_j41  (M : AM) : Option (Int32 × AM) :=
  if (gI M 105 2) ≤ 0 then bnd (f_Mo_find 0 (gI M 105 35) M) (fun r1 M2 => some (r1, M2)) else some (0, M)
set_option maxRecDepth 20000 in
theorem t_Mo_oldLamp_j41 {G : GT} {d : Nat}  {M : AM} {Q : AM → Option Value → Prop} {r : Int32} {M' : AM} (k : WT M' → Q M' (some (.int r))) (hW : WT M)  (hf : f_Mo_oldLamp_j41  M = some (r, M')) : PW G (d + 2) 224 41 [.ref 105] [] M 0 0 Q := by
  refine P_aload_n d_224_41 rfl ?_
  refine A_gI d_224_42 cn_224 fk_CordLoftModel_152 k_105 hW ?_
  refine A_if_le (tgt := 52) d_224_45 rfl hf (fun hf => ?_) (fun hf => ?_)
  · refine P_aload_n d_224_52 rfl ?_
    refine A_iconst d_224_53 ic_0 ?_
    refine P_aload_n d_224_54 rfl ?_
    refine A_gI d_224_55 cn_224 fk_CordLoftModel_223 k_105 hW ?_
    refine A_V2 d_224_58 vk_224_220 ml_217 rfl k_105 hW rfl hf (fun r1 M2 hc hf => t_Mo_find hW  hc (fun hW => ?_))
    exact A_iret d_224_61 mr_224 hW hf k
  · refine A_iconst d_224_48 ic_0 ?_
    refine P_goto (tgt := 61) d_224_49 rfl ?_
    exact A_iret d_224_61 mr_224 hW hf k
def f_Mo_oldLamp  (M : AM) : Option (Int32 × AM) :=
  if (gI M 105 2) ≤ 0 then bnd (f_Mo_isName  M) (fun r1 M2 => if r1 = 0 then bnd (f_Mo_wrong 2 M2) (fun r7 M8 => f_Mo_oldLamp_j41  M8) else bnd (f_Mo_find 0 (gI M2 105 35) M2) (fun r3 M4 => if 0 ≤ r3 then f_Mo_oldLamp_j41  M4 else bnd (f_Mo_wrong 5 M4) (fun r5 M6 => f_Mo_oldLamp_j41  M6))) else some (0, M)
set_option maxRecDepth 20000 in
theorem t_Mo_oldLamp {G : GT} {d : Nat}  {M : AM} {Q : AM → Option Value → Prop} {r : Int32} {M' : AM} (hW : WT M)  (hf : f_Mo_oldLamp  M = some (r, M')) (k : WT M' → Q M' (some (.int r)))  : Cal G (d + 2) 224 [.ref 105] M Q := by
  refine A_enter ml_224 rfl ?_
  refine P_aload_n d_224_0 rfl ?_
  refine A_gI d_224_1 cn_224 fk_CordLoftModel_152 k_105 hW ?_
  refine A_if_le (tgt := 9) d_224_4 rfl hf (fun hf => ?_) (fun hf => ?_)
  · refine P_aload_n d_224_9 rfl ?_
    refine A_V0 d_224_10 vk_224_217 ml_214 rfl k_105 hW rfl hf (fun r1 M2 hc hf => t_Mo_isName hW  hc (fun hW hb2 => ?_))
    refine A_if_ne (tgt := 24) d_224_13 rfl hf (fun hf => ?_) (fun hf => ?_)
    · refine P_aload_n d_224_24 rfl ?_
      refine A_iconst d_224_25 ic_0 ?_
      refine P_aload_n d_224_26 rfl ?_
      refine A_gI d_224_27 cn_224 fk_CordLoftModel_223 k_105 hW ?_
      refine A_V2 d_224_30 vk_224_220 ml_217 rfl k_105 hW rfl hf (fun r3 M4 hc hf => t_Mo_find hW  hc (fun hW => ?_))
      refine A_if_ge (tgt := 41) d_224_33 rfl hf (fun hf => ?_) (fun hf => ?_)
      · exact t_Mo_oldLamp_j41 k hW  hf
      · refine P_aload_n d_224_36 rfl ?_
        refine A_iconst d_224_37 ic_5 ?_
        refine A_V1 d_224_38 vk_224_199 ml_216 rfl k_105 hW rfl hf (fun r5 M6 hc hf => t_Mo_wrong hW  hc (fun hW => ?_))
        exact t_Mo_oldLamp_j41 k hW  hf
    · refine P_aload_n d_224_16 rfl ?_
      refine A_iconst d_224_17 ic_2 ?_
      refine A_V1 d_224_18 vk_224_199 ml_216 rfl k_105 hW rfl hf (fun r7 M8 hc hf => t_Mo_wrong hW  hc (fun hW => ?_))
      refine P_goto (tgt := 41) d_224_21 rfl ?_
      exact t_Mo_oldLamp_j41 k hW  hf
  · refine A_iconst d_224_7 ic_0 ?_
    exact A_iret d_224_8 mr_224 hW hf k
def f_Mo_has (a0 : Int32) (a1 : Int32) (M : AM) : Option (Int32 × AM) :=
  if ((a0 >>> (a1 &&& 31)) &&& 1) = 1 then some (1, M) else some (0, M)
set_option maxRecDepth 20000 in
theorem t_Mo_has {G : GT} {d : Nat} {a0 : Int32} {a1 : Int32} {M : AM} {Q : AM → Option Value → Prop} {r : Int32} {M' : AM} (hW : WT M)  (hf : f_Mo_has a0 a1 M = some (r, M')) (k : WT M' → (r = 0 ∨ r = 1) → Q M' (some (.int r)))  : Cal G d 225 [.int a0, .int a1] M Q := by
  refine A_enter ml_225 rfl ?_
  refine P_iload_n d_225_0 rfl ?_
  refine P_iload_n d_225_1 rfl ?_
  refine P_ishr d_225_2 ?_
  refine A_iconst d_225_3 ic_1 ?_
  refine P_iand d_225_4 ?_
  refine A_iconst d_225_5 ic_1 ?_
  refine A_icmp_ne (tgt := 13) d_225_6 rfl hf (fun hf => ?_) (fun hf => ?_)
  · refine A_iconst d_225_13 ic_0 ?_
    exact A_zret d_225_14 mr_225 hW (Or.inl rfl) hf k
  · refine A_iconst d_225_9 ic_1 ?_
    refine P_goto (tgt := 14) d_225_10 rfl ?_
    exact A_zret d_225_14 mr_225 hW (Or.inr rfl) hf k
def f_Mo_readTurned_j33 (v1 : Int32) (M : AM) : Option (Unit × AM) :=
  if (gI M 105 2) ≤ 0 then ald 8 M 117 (gI M 105 36) (fun x1 => ast 8 M 117 (gI M 105 36) (x1 ||| ((1 : Int32) <<< (v1 &&& 31))) (fun M2 => bnd (f_Mo_token  M2) (fun r3 M4 => some ((), M4)))) else some ((), M)
set_option maxRecDepth 20000 in
theorem t_Mo_readTurned_j33 {G : GT} {d : Nat} {v1 : Int32} {M : AM} {Q : AM → Option Value → Prop} {r : Unit} {M' : AM} (k : WT M' → Q M' none) (hW : WT M)  (hf : f_Mo_readTurned_j33 v1 M = some (r, M')) : PW G (d + 3) 223 33 [.ref 105, .int v1] [] M 0 0 Q := by
  refine P_aload_n d_223_33 rfl ?_
  refine A_gI d_223_34 cn_223 fk_CordLoftModel_152 k_105 hW ?_
  refine A_if_le (tgt := 41) d_223_37 rfl hf (fun hf => ?_) (fun hf => ?_)
  · refine P_aload_n d_223_41 rfl ?_
    refine A_gF d_223_42 cn_223 fk_CordLoftModel_48 ft_13_29 k_105 hW ?_
    refine P_aload_n d_223_45 rfl ?_
    refine A_gI d_223_46 cn_223 fk_CordLoftModel_323 k_105 hW ?_
    refine P_dup2 d_223_49 rfl rfl ?_
    refine A_iald d_223_50 k_117 l_117 hW hf (fun hf => ?_)
    refine A_iconst d_223_51 ic_1 ?_
    refine P_iload_n d_223_52 rfl ?_
    refine P_ishl d_223_53 ?_
    refine P_ior d_223_54 ?_
    refine A_iast d_223_55 k_117 l_117 hW hf (fun hW hf => ?_)
    refine P_aload_n d_223_56 rfl ?_
    refine A_V0 d_223_57 vk_223_202 ml_205 rfl k_105 hW rfl hf (fun r3 M4 hc hf => t_Mo_token hW  hc (fun hW => ?_))
    exact A_ret d_223_60 mr_223 hW hf k
  · exact A_ret d_223_40 mr_223 hW hf k
def f_Mo_readTurned  (M : AM) : Option (Unit × AM) :=
  bnd (f_Mo_oldLamp  M) (fun r1 M2 => if (gI M2 105 2) = 0 then ald 8 M2 117 (gI M2 105 36) (fun x3 => bnd (f_Mo_has x3 r1 M2) (fun r4 M5 => if r4 = 0 then f_Mo_readTurned_j33 r1 M5 else bnd (f_Mo_wrong 3 M5) (fun r6 M7 => f_Mo_readTurned_j33 r1 M7))) else f_Mo_readTurned_j33 r1 M2)
set_option maxRecDepth 20000 in
theorem t_Mo_readTurned {G : GT} {d : Nat}  {M : AM} {Q : AM → Option Value → Prop} {r : Unit} {M' : AM} (hW : WT M)  (hf : f_Mo_readTurned  M = some (r, M')) (k : WT M' → Q M' none)  : Cal G (d + 3) 223 [.ref 105] M Q := by
  refine A_enter ml_223 rfl ?_
  refine P_aload_n d_223_0 rfl ?_
  refine A_V0 d_223_1 vk_223_320 ml_224 rfl k_105 hW rfl hf (fun r1 M2 hc hf => t_Mo_oldLamp hW  hc (fun hW => ?_))
  refine A_istore_n d_223_4 ml_223 rfl rfl ?_
  refine P_aload_n d_223_5 rfl ?_
  refine A_gI d_223_6 cn_223 fk_CordLoftModel_152 k_105 hW ?_
  refine A_if_ne (tgt := 33) d_223_9 rfl hf (fun hf => ?_) (fun hf => ?_)
  · exact t_Mo_readTurned_j33 k hW  hf
  · refine P_aload_n d_223_12 rfl ?_
    refine A_gF d_223_13 cn_223 fk_CordLoftModel_48 ft_13_29 k_105 hW ?_
    refine P_aload_n d_223_16 rfl ?_
    refine A_gI d_223_17 cn_223 fk_CordLoftModel_323 k_105 hW ?_
    refine A_iald d_223_20 k_117 l_117 hW hf (fun hf => ?_)
    refine P_iload_n d_223_21 rfl ?_
    refine A_S2 d_223_22 sk_223_326 ml_225 rfl rfl hf (fun r4 M5 hc hf => t_Mo_has hW  hc (fun hW hb5 => ?_))
    refine A_if_eq (tgt := 33) d_223_25 rfl hf (fun hf => ?_) (fun hf => ?_)
    · exact t_Mo_readTurned_j33 k hW  hf
    · refine P_aload_n d_223_28 rfl ?_
      refine A_iconst d_223_29 ic_3 ?_
      refine A_V1 d_223_30 vk_223_199 ml_216 rfl k_105 hW rfl hf (fun r6 M7 hc hf => t_Mo_wrong hW  hc (fun hW => ?_))
      exact t_Mo_readTurned_j33 k hW  hf
def f_Mo_readCord_b39 (rec : AM → Option (Unit × AM))   (M : AM) : Option (Unit × AM) :=
  if (gI M 105 2) = 0 then bnd (f_Mo_isName  M) (fun r1 M2 => if r1 = 0 then some ((), M2) else bnd (f_Mo_readTurned  M2) (fun r3 M4 => rec  M4)) else some ((), M)
def f_Mo_readCord_l39  : Nat → AM → Option (Unit × AM)
  | 0, _ => none
  | n + 1, M => f_Mo_readCord_b39 (f_Mo_readCord_l39  n)   M
set_option maxRecDepth 20000 in
theorem t_Mo_readCord_b39 {G : GT} {d : Nat}   {M : AM} {Q : AM → Option Value → Prop} {yo : Unit} {Mo : AM} {rec : AM → Option (Unit × AM)} (hrec : ∀  (M : AM), WT M → rec  M = some (yo, Mo) → PW G (d + 5) 222 39 [.ref 105] [] M 0 0 Q) (k1 : WT Mo → PW G (d + 5) 222 60 [.ref 105] [] Mo 0 0 Q) (hW : WT M)   (hf : f_Mo_readCord_b39 rec   M = some (yo, Mo)) : PW G (d + 5) 222 39 [.ref 105] [] M 0 0 Q := by
  refine P_aload_n d_222_39 rfl ?_
  refine A_gI d_222_40 cn_222 fk_CordLoftModel_152 k_105 hW ?_
  refine A_if_ne (tgt := 60) d_222_43 rfl hf (fun hf => ?_) (fun hf => ?_)
  · cases hf
    exact k1 hW 
  · refine P_aload_n d_222_46 rfl ?_
    refine A_V0 d_222_47 vk_222_217 ml_214 rfl k_105 hW rfl hf (fun r1 M2 hc hf => t_Mo_isName hW  hc (fun hW hb2 => ?_))
    refine A_if_eq (tgt := 60) d_222_50 rfl hf (fun hf => ?_) (fun hf => ?_)
    · cases hf
      exact k1 hW 
    · refine P_aload_n d_222_53 rfl ?_
      refine A_V0 d_222_54 vk_222_330 ml_223 rfl k_105 hW rfl hf (fun r3 M4 hc hf => t_Mo_readTurned hW  hc (fun hW => ?_))
      refine P_goto (tgt := 39) d_222_57 rfl ?_
      exact hrec  _ hW  hf
theorem t_Mo_readCord_l39 {G : GT} {d : Nat}  {Q : AM → Option Value → Prop} {yo : Unit} {Mo : AM} (k1 : WT Mo → PW G (d + 5) 222 60 [.ref 105] [] Mo 0 0 Q)  : ∀ (z : Nat)  (M : AM), WT M → f_Mo_readCord_l39  z  M = some (yo, Mo) → PW G (d + 5) 222 39 [.ref 105] [] M 0 0 Q := by
  intro z
  induction z with
  | zero => intro  M hW hf; cases hf
  | succ z ih => intro  M hW hf; exact t_Mo_readCord_b39 (fun  M hW hf => ih  M hW hf) k1 hW   hf
def f_Mo_readCord  (M : AM) : Option (Unit × AM) :=
  bnd (f_Mo_newName 8 (gI M 105 36) M) (fun r1 M2 => bnd (f_Mo_want 500186639987 M2) (fun r3 M4 => if (gI M4 105 2) ≤ 0 then ast 8 M4 117 (gI M4 105 36) 0 (fun M5 => bnd (f_Mo_readTurned  M5) (fun r6 M7 => bnd (f_Mo_readCord_l39  fu  M7) (fun y8 M9 => bnd (f_Mo_mayTell 427071599731 20 M9) (fun r10 M11 => ast 8 M11 118 (gI M9 105 36) r10 (fun M12 => if (gI M12 105 2) = 0 then wI M12 105 36 ((gI M12 105 36) + 1) (fun M13 => some ((), M13)) else some ((), M12)))))) else some ((), M4)))
set_option maxRecDepth 20000 in
theorem t_Mo_readCord {G : GT} {d : Nat}  {M : AM} {Q : AM → Option Value → Prop} {r : Unit} {M' : AM} (hW : WT M)  (hf : f_Mo_readCord  M = some (r, M')) (k : WT M' → Q M' none)  : Cal G (d + 5) 222 [.ref 105] M Q := by
  refine A_enter ml_222 rfl ?_
  refine P_aload_n d_222_0 rfl ?_
  refine P_bipush d_222_1 bi_8 ?_
  refine P_aload_n d_222_3 rfl ?_
  refine A_gI d_222_4 cn_222 fk_CordLoftModel_323 k_105 hW ?_
  refine A_V2 d_222_7 vk_222_310 ml_213 rfl k_105 hW rfl hf (fun r1 M2 hc hf => t_Mo_newName hW  hc (fun hW => ?_))
  refine P_aload_n d_222_10 rfl ?_
  refine A_ldc2 d_222_11 cn_222 cl_CordLoftModel_163 ?_
  refine A_V1 d_222_14 vk_222_205 ml_220 rfl k_105 hW rfl hf (fun r3 M4 hc hf => t_Mo_want hW  hc (fun hW => ?_))
  refine P_aload_n d_222_17 rfl ?_
  refine A_gI d_222_18 cn_222 fk_CordLoftModel_152 k_105 hW ?_
  refine A_if_le (tgt := 25) d_222_21 rfl hf (fun hf => ?_) (fun hf => ?_)
  · refine P_aload_n d_222_25 rfl ?_
    refine A_gF d_222_26 cn_222 fk_CordLoftModel_48 ft_13_29 k_105 hW ?_
    refine P_aload_n d_222_29 rfl ?_
    refine A_gI d_222_30 cn_222 fk_CordLoftModel_323 k_105 hW ?_
    refine A_iconst d_222_33 ic_0 ?_
    refine A_iast d_222_34 k_117 l_117 hW hf (fun hW hf => ?_)
    refine P_aload_n d_222_35 rfl ?_
    refine A_V0 d_222_36 vk_222_330 ml_223 rfl k_105 hW rfl hf (fun r6 M7 hc hf => t_Mo_readTurned hW  hc (fun hW => ?_))
    obtain ⟨y8, M9, hl, hf⟩ := bnd_some hf
    refine t_Mo_readCord_l39 (fun hW => ?_)  fu  _ hW  hl
    refine P_aload_n d_222_60 rfl ?_
    refine A_gF d_222_61 cn_222 fk_CordLoftModel_51 ft_13_30 k_105 hW ?_
    refine P_aload_n d_222_64 rfl ?_
    refine A_gI d_222_65 cn_222 fk_CordLoftModel_323 k_105 hW ?_
    refine P_aload_n d_222_68 rfl ?_
    refine A_ldc2 d_222_69 cn_222 cl_CordLoftModel_165 ?_
    refine P_bipush d_222_72 bi_20 ?_
    refine A_V2 d_222_74 vk_222_316 ml_218 rfl k_105 hW rfl hf (fun r10 M11 hc hf => t_Mo_mayTell hW  hc (fun hW => ?_))
    refine A_iast d_222_77 k_118 l_118 hW hf (fun hW hf => ?_)
    refine P_aload_n d_222_78 rfl ?_
    refine A_gI d_222_79 cn_222 fk_CordLoftModel_152 k_105 hW ?_
    refine A_if_ne (tgt := 95) d_222_82 rfl hf (fun hf => ?_) (fun hf => ?_)
    · exact A_ret d_222_95 mr_222 hW hf k
    · refine P_aload_n d_222_85 rfl ?_
      refine P_dup d_222_86 rfl ?_
      refine A_gI d_222_87 cn_222 fk_CordLoftModel_323 k_105 hW ?_
      refine A_iconst d_222_90 ic_1 ?_
      refine P_iadd d_222_91 ?_
      refine A_pI d_222_92 cn_222 fp_CordLoftModel_323 k_105 hW hf (fun hW hf => ?_)
      exact A_ret d_222_95 mr_222 hW hf k
  · exact A_ret d_222_24 mr_222 hW hf k
def f_Mo_readNext_j55 (v1 : Int32) (v2 : Int32) (M : AM) : Option (Unit × AM) :=
  if (gI M 105 2) ≤ 0 then ald 8 M 116 v1 (fun x1 => ast 8 M 116 v1 (x1 ||| ((1 : Int32) <<< (v2 &&& 31))) (fun M2 => ald 8 M2 116 v2 (fun x3 => ast 8 M2 116 v2 (x3 ||| ((1 : Int32) <<< (v1 &&& 31))) (fun M4 => bnd (f_Mo_token  M4) (fun r5 M6 => some ((), M6)))))) else some ((), M)
set_option maxRecDepth 20000 in
theorem t_Mo_readNext_j55 {G : GT} {d : Nat} {v1 : Int32} {v2 : Int32} {M : AM} {Q : AM → Option Value → Prop} {r : Unit} {M' : AM} (k : WT M' → Q M' none) (hW : WT M)  (hf : f_Mo_readNext_j55 v1 v2 M = some (r, M')) : PW G (d + 3) 226 55 [.ref 105, .int v1, .int v2] [] M 0 0 Q := by
  refine P_aload_n d_226_55 rfl ?_
  refine A_gI d_226_56 cn_226 fk_CordLoftModel_152 k_105 hW ?_
  refine A_if_le (tgt := 63) d_226_59 rfl hf (fun hf => ?_) (fun hf => ?_)
  · refine P_aload_n d_226_63 rfl ?_
    refine A_gF d_226_64 cn_226 fk_CordLoftModel_45 ft_13_28 k_105 hW ?_
    refine P_iload_n d_226_67 rfl ?_
    refine P_dup2 d_226_68 rfl rfl ?_
    refine A_iald d_226_69 k_116 l_116 hW hf (fun hf => ?_)
    refine A_iconst d_226_70 ic_1 ?_
    refine P_iload_n d_226_71 rfl ?_
    refine P_ishl d_226_72 ?_
    refine P_ior d_226_73 ?_
    refine A_iast d_226_74 k_116 l_116 hW hf (fun hW hf => ?_)
    refine P_aload_n d_226_75 rfl ?_
    refine A_gF d_226_76 cn_226 fk_CordLoftModel_45 ft_13_28 k_105 hW ?_
    refine P_iload_n d_226_79 rfl ?_
    refine P_dup2 d_226_80 rfl rfl ?_
    refine A_iald d_226_81 k_116 l_116 hW hf (fun hf => ?_)
    refine A_iconst d_226_82 ic_1 ?_
    refine P_iload_n d_226_83 rfl ?_
    refine P_ishl d_226_84 ?_
    refine P_ior d_226_85 ?_
    refine A_iast d_226_86 k_116 l_116 hW hf (fun hW hf => ?_)
    refine P_aload_n d_226_87 rfl ?_
    refine A_V0 d_226_88 vk_226_202 ml_205 rfl k_105 hW rfl hf (fun r5 M6 hc hf => t_Mo_token hW  hc (fun hW => ?_))
    exact A_ret d_226_91 mr_226 hW hf k
  · exact A_ret d_226_62 mr_226 hW hf k
def f_Mo_readNext_j50 (v1 : Int32) (v2 : Int32) (M : AM) : Option (Unit × AM) :=
  bnd (f_Mo_wrong 3 M) (fun r1 M2 => f_Mo_readNext_j55 v1 v2 M2)
set_option maxRecDepth 20000 in
theorem t_Mo_readNext_j50 {G : GT} {d : Nat} {v1 : Int32} {v2 : Int32} {M : AM} {Q : AM → Option Value → Prop} {r : Unit} {M' : AM} (k : WT M' → Q M' none) (hW : WT M)  (hf : f_Mo_readNext_j50 v1 v2 M = some (r, M')) : PW G (d + 3) 226 50 [.ref 105, .int v1, .int v2] [] M 0 0 Q := by
  refine P_aload_n d_226_50 rfl ?_
  refine A_iconst d_226_51 ic_3 ?_
  refine A_V1 d_226_52 vk_226_199 ml_216 rfl k_105 hW rfl hf (fun r1 M2 hc hf => t_Mo_wrong hW  hc (fun hW => ?_))
  exact t_Mo_readNext_j55 k hW  hf
def f_Mo_readNext_j20 (v1 : Int32) (M : AM) : Option (Unit × AM) :=
  bnd (f_Mo_oldLamp  M) (fun r1 M2 => if (gI M2 105 2) = 0 then if v1 = r1 then f_Mo_readNext_j50 v1 r1 M2 else ald 8 M2 116 v1 (fun x3 => bnd (f_Mo_has x3 r1 M2) (fun r4 M5 => if r4 = 0 then f_Mo_readNext_j55 v1 r1 M5 else f_Mo_readNext_j50 v1 r1 M5)) else f_Mo_readNext_j55 v1 r1 M2)
set_option maxRecDepth 20000 in
theorem t_Mo_readNext_j20 {G : GT} {d : Nat} {v1 : Int32} {M : AM} {Q : AM → Option Value → Prop} {r : Unit} {M' : AM} (k : WT M' → Q M' none) (hW : WT M)  (hf : f_Mo_readNext_j20 v1 M = some (r, M')) : PW G (d + 3) 226 20 [.ref 105, .int v1, ux] [] M 0 0 Q := by
  refine P_aload_n d_226_20 rfl ?_
  refine A_V0 d_226_21 vk_226_320 ml_224 rfl k_105 hW rfl hf (fun r1 M2 hc hf => t_Mo_oldLamp hW  hc (fun hW => ?_))
  refine A_istore_n d_226_24 ml_226 rfl rfl ?_
  refine P_aload_n d_226_25 rfl ?_
  refine A_gI d_226_26 cn_226 fk_CordLoftModel_152 k_105 hW ?_
  refine A_if_ne (tgt := 55) d_226_29 rfl hf (fun hf => ?_) (fun hf => ?_)
  · exact t_Mo_readNext_j55 k hW  hf
  · refine P_iload_n d_226_32 rfl ?_
    refine P_iload_n d_226_33 rfl ?_
    refine A_icmp_eq (tgt := 50) d_226_34 rfl hf (fun hf => ?_) (fun hf => ?_)
    · exact t_Mo_readNext_j50 k hW  hf
    · refine P_aload_n d_226_37 rfl ?_
      refine A_gF d_226_38 cn_226 fk_CordLoftModel_45 ft_13_28 k_105 hW ?_
      refine P_iload_n d_226_41 rfl ?_
      refine A_iald d_226_42 k_116 l_116 hW hf (fun hf => ?_)
      refine P_iload_n d_226_43 rfl ?_
      refine A_S2 d_226_44 sk_226_326 ml_225 rfl rfl hf (fun r4 M5 hc hf => t_Mo_has hW  hc (fun hW hb5 => ?_))
      refine A_if_eq (tgt := 55) d_226_47 rfl hf (fun hf => ?_) (fun hf => ?_)
      · exact t_Mo_readNext_j55 k hW  hf
      · exact t_Mo_readNext_j50 k hW  hf
def f_Mo_readNext  (M : AM) : Option (Unit × AM) :=
  bnd (f_Mo_token  M) (fun r1 M2 => bnd (f_Mo_oldLamp  M2) (fun r3 M4 => if (gI M4 105 2) = 0 then bnd (f_Mo_token  M4) (fun r5 M6 => f_Mo_readNext_j20 r3 M6) else f_Mo_readNext_j20 r3 M4))
set_option maxRecDepth 20000 in
theorem t_Mo_readNext {G : GT} {d : Nat}  {M : AM} {Q : AM → Option Value → Prop} {r : Unit} {M' : AM} (hW : WT M)  (hf : f_Mo_readNext  M = some (r, M')) (k : WT M' → Q M' none)  : Cal G (d + 3) 226 [.ref 105] M Q := by
  refine A_enter ml_226 rfl ?_
  refine P_aload_n d_226_0 rfl ?_
  refine A_V0 d_226_1 vk_226_202 ml_205 rfl k_105 hW rfl hf (fun r1 M2 hc hf => t_Mo_token hW  hc (fun hW => ?_))
  refine P_aload_n d_226_4 rfl ?_
  refine A_V0 d_226_5 vk_226_320 ml_224 rfl k_105 hW rfl hf (fun r3 M4 hc hf => t_Mo_oldLamp hW  hc (fun hW => ?_))
  refine A_istore_n d_226_8 ml_226 rfl rfl ?_
  refine P_aload_n d_226_9 rfl ?_
  refine A_gI d_226_10 cn_226 fk_CordLoftModel_152 k_105 hW ?_
  refine A_if_ne (tgt := 20) d_226_13 rfl hf (fun hf => ?_) (fun hf => ?_)
  · exact t_Mo_readNext_j20 k hW  hf
  · refine P_aload_n d_226_16 rfl ?_
    refine A_V0 d_226_17 vk_226_202 ml_205 rfl k_105 hW rfl hf (fun r5 M6 hc hf => t_Mo_token hW  hc (fun hW => ?_))
    exact t_Mo_readNext_j20 k hW  hf
def f_Mo_tight (a0 : Int32) (M : AM) : Option (Int32 × AM) :=
  swi a0 [(21, some (3, M)), (38, some (2, M)), (43, some (5, M)), (45, some (5, M)), (60, some (4, M)), (61, some (4, M)), (62, some (4, M)), (124, some (1, M))] (some (6, M))
set_option maxRecDepth 20000 in
theorem t_Mo_tight {G : GT} {d : Nat} {a0 : Int32} {M : AM} {Q : AM → Option Value → Prop} {r : Int32} {M' : AM} (hW : WT M)  (hf : f_Mo_tight a0 M = some (r, M')) (k : WT M' → Q M' (some (.int r)))  : Cal G d 230 [.int a0] M Q := by
  refine A_enter ml_230 rfl ?_
  refine P_iload_n d_230_0 rfl ?_
  refine A_lsw [21, 38, 43, 45, 60, 61, 62, 124] [80, 78, 84, 84, 82, 82, 82, 76] 86 d_230_1 rfl (by decide +kernel) hf (fun i A t h1 h2 hf => ?_) (fun hf => ?_)
  · match i, h1, h2 with
    | 0, h1, h2 =>
      have h3 := (Prod.mk.inj (Option.some.inj h1)).2
      have h4 := Option.some.inj h2
      subst h3; subst h4; clear h1 h2
      refine A_iconst d_230_80 ic_3 ?_
      exact A_iret d_230_81 mr_230 hW hf k
    | 1, h1, h2 =>
      have h3 := (Prod.mk.inj (Option.some.inj h1)).2
      have h4 := Option.some.inj h2
      subst h3; subst h4; clear h1 h2
      refine A_iconst d_230_78 ic_2 ?_
      exact A_iret d_230_79 mr_230 hW hf k
    | 2, h1, h2 =>
      have h3 := (Prod.mk.inj (Option.some.inj h1)).2
      have h4 := Option.some.inj h2
      subst h3; subst h4; clear h1 h2
      refine A_iconst d_230_84 ic_5 ?_
      exact A_iret d_230_85 mr_230 hW hf k
    | 3, h1, h2 =>
      have h3 := (Prod.mk.inj (Option.some.inj h1)).2
      have h4 := Option.some.inj h2
      subst h3; subst h4; clear h1 h2
      refine A_iconst d_230_84 ic_5 ?_
      exact A_iret d_230_85 mr_230 hW hf k
    | 4, h1, h2 =>
      have h3 := (Prod.mk.inj (Option.some.inj h1)).2
      have h4 := Option.some.inj h2
      subst h3; subst h4; clear h1 h2
      refine A_iconst d_230_82 ic_4 ?_
      exact A_iret d_230_83 mr_230 hW hf k
    | 5, h1, h2 =>
      have h3 := (Prod.mk.inj (Option.some.inj h1)).2
      have h4 := Option.some.inj h2
      subst h3; subst h4; clear h1 h2
      refine A_iconst d_230_82 ic_4 ?_
      exact A_iret d_230_83 mr_230 hW hf k
    | 6, h1, h2 =>
      have h3 := (Prod.mk.inj (Option.some.inj h1)).2
      have h4 := Option.some.inj h2
      subst h3; subst h4; clear h1 h2
      refine A_iconst d_230_82 ic_4 ?_
      exact A_iret d_230_83 mr_230 hW hf k
    | 7, h1, h2 =>
      have h3 := (Prod.mk.inj (Option.some.inj h1)).2
      have h4 := Option.some.inj h2
      subst h3; subst h4; clear h1 h2
      refine A_iconst d_230_76 ic_1 ?_
      exact A_iret d_230_77 mr_230 hW hf k
    | i + 8, h1, h2 => exact absurd h2 (by simp)
  · refine P_bipush d_230_86 bi_6 ?_
    exact A_iret d_230_88 mr_230 hW hf k
def f_Mo_mayNot_j41  (M : AM) : Option (Int32 × AM) :=
  some (1, M)
set_option maxRecDepth 20000 in
theorem t_Mo_mayNot_j41 {G : GT} {d : Nat}  {M : AM} {Q : AM → Option Value → Prop} {r : Int32} {M' : AM} (k : WT M' → (r = 0 ∨ r = 1) → Q M' (some (.int r))) (hW : WT M)  (hf : f_Mo_mayNot_j41  M = some (r, M')) : PW G (d + 1) 229 41 [ux] [] M 0 0 Q := by
  refine A_iconst d_229_41 ic_1 ?_
  refine P_goto (tgt := 46) d_229_42 rfl ?_
  exact A_zret d_229_46 mr_229 hW (Or.inr rfl) hf k
def f_Mo_mayNot  (M : AM) : Option (Int32 × AM) :=
  if (gI M 105 19) = 0 then f_Mo_mayNot_j41  M else ald 160 M 112 ((gI M 105 19) - 1) (fun x1 => if x1 = 20 then f_Mo_mayNot_j41  M else ald 160 M 112 ((gI M 105 19) - 1) (fun x2 => bnd (f_Mo_tight x2 M) (fun r3 M4 => if 4 ≤ r3 then some (0, M4) else f_Mo_mayNot_j41  M4)))
set_option maxRecDepth 20000 in
theorem t_Mo_mayNot {G : GT} {d : Nat}  {M : AM} {Q : AM → Option Value → Prop} {r : Int32} {M' : AM} (hW : WT M)  (hf : f_Mo_mayNot  M = some (r, M')) (k : WT M' → (r = 0 ∨ r = 1) → Q M' (some (.int r)))  : Cal G (d + 1) 229 [.ref 105] M Q := by
  refine A_enter ml_229 rfl ?_
  refine P_aload_n d_229_0 rfl ?_
  refine A_gI d_229_1 cn_229 fk_CordLoftModel_229 k_105 hW ?_
  refine A_if_eq (tgt := 41) d_229_4 rfl hf (fun hf => ?_) (fun hf => ?_)
  · refine P_fgt [false] ?_
    exact t_Mo_mayNot_j41 k hW  hf
  · refine P_aload_n d_229_7 rfl ?_
    refine A_gF d_229_8 cn_229 fk_CordLoftModel_33 ft_13_15 k_105 hW ?_
    refine P_aload_n d_229_11 rfl ?_
    refine A_gI d_229_12 cn_229 fk_CordLoftModel_229 k_105 hW ?_
    refine A_iconst d_229_15 ic_1 ?_
    refine P_isub d_229_16 ?_
    refine A_iald d_229_17 k_112 l_112 hW hf (fun hf => ?_)
    refine P_bipush d_229_18 bi_20 ?_
    refine A_icmp_eq (tgt := 41) d_229_20 rfl hf (fun hf => ?_) (fun hf => ?_)
    · refine P_fgt [false] ?_
      exact t_Mo_mayNot_j41 k hW  hf
    · refine P_aload_n d_229_23 rfl ?_
      refine A_gF d_229_24 cn_229 fk_CordLoftModel_33 ft_13_15 k_105 hW ?_
      refine P_aload_n d_229_27 rfl ?_
      refine A_gI d_229_28 cn_229 fk_CordLoftModel_229 k_105 hW ?_
      refine A_iconst d_229_31 ic_1 ?_
      refine P_isub d_229_32 ?_
      refine A_iald d_229_33 k_112 l_112 hW hf (fun hf => ?_)
      refine A_S1 d_229_34 sk_229_232 ml_230 rfl rfl hf (fun r3 M4 hc hf => t_Mo_tight hW  hc (fun hW => ?_))
      refine A_iconst d_229_37 ic_4 ?_
      refine A_icmp_ge (tgt := 45) d_229_38 rfl hf (fun hf => ?_) (fun hf => ?_)
      · refine A_iconst d_229_45 ic_0 ?_
        exact A_zret d_229_46 mr_229 hW (Or.inl rfl) hf k
      · refine P_fgt [false] ?_
        exact t_Mo_mayNot_j41 k hW  hf
def f_Mo_openUp (a1 : Int32) (M : AM) : Option (Unit × AM) :=
  ast 160 M 112 (gI M 105 19) a1 (fun M1 => wI M1 105 19 ((gI M1 105 19) + 1) (fun M2 => wI M2 105 23 ((gI M2 105 23) + 1) (fun M3 => if (gI M3 105 2) = 0 then bnd (f_Mo_token  M3) (fun r4 M5 => some ((), M5)) else some ((), M3))))
set_option maxRecDepth 20000 in
theorem t_Mo_openUp {G : GT} {d : Nat} {a1 : Int32} {M : AM} {Q : AM → Option Value → Prop} {r : Unit} {M' : AM} (hW : WT M)  (hf : f_Mo_openUp a1 M = some (r, M')) (k : WT M' → Q M' none)  : Cal G (d + 2) 231 [.ref 105, .int a1] M Q := by
  refine A_enter ml_231 rfl ?_
  refine P_aload_n d_231_0 rfl ?_
  refine A_gF d_231_1 cn_231 fk_CordLoftModel_33 ft_13_15 k_105 hW ?_
  refine P_aload_n d_231_4 rfl ?_
  refine A_gI d_231_5 cn_231 fk_CordLoftModel_229 k_105 hW ?_
  refine P_iload_n d_231_8 rfl ?_
  refine A_iast d_231_9 k_112 l_112 hW hf (fun hW hf => ?_)
  refine P_aload_n d_231_10 rfl ?_
  refine P_dup d_231_11 rfl ?_
  refine A_gI d_231_12 cn_231 fk_CordLoftModel_229 k_105 hW ?_
  refine A_iconst d_231_15 ic_1 ?_
  refine P_iadd d_231_16 ?_
  refine A_pI d_231_17 cn_231 fp_CordLoftModel_229 k_105 hW hf (fun hW hf => ?_)
  refine P_aload_n d_231_20 rfl ?_
  refine P_dup d_231_21 rfl ?_
  refine A_gI d_231_22 cn_231 fk_CordLoftModel_239 k_105 hW ?_
  refine A_iconst d_231_25 ic_1 ?_
  refine P_iadd d_231_26 ?_
  refine A_pI d_231_27 cn_231 fp_CordLoftModel_239 k_105 hW hf (fun hW hf => ?_)
  refine P_aload_n d_231_30 rfl ?_
  refine A_gI d_231_31 cn_231 fk_CordLoftModel_152 k_105 hW ?_
  refine A_if_ne (tgt := 41) d_231_34 rfl hf (fun hf => ?_) (fun hf => ?_)
  · exact A_ret d_231_41 mr_231 hW hf k
  · refine P_aload_n d_231_37 rfl ?_
    refine A_V0 d_231_38 vk_231_202 ml_205 rfl k_105 hW rfl hf (fun r4 M5 hc hf => t_Mo_token hW  hc (fun hW => ?_))
    exact A_ret d_231_41 mr_231 hW hf k
def f_Mo_isFull_j18  (M : AM) : Option (Int32 × AM) :=
  some (1, M)
set_option maxRecDepth 20000 in
theorem t_Mo_isFull_j18 {G : GT} {d : Nat}  {M : AM} {Q : AM → Option Value → Prop} {r : Int32} {M' : AM} (k : WT M' → (r = 0 ∨ r = 1) → Q M' (some (.int r))) (hW : WT M)  (hf : f_Mo_isFull_j18  M = some (r, M')) : PW G d 232 18 [ux] [] M 0 0 Q := by
  refine A_iconst d_232_18 ic_1 ?_
  refine P_goto (tgt := 23) d_232_19 rfl ?_
  exact A_zret d_232_23 mr_232 hW (Or.inr rfl) hf k
def f_Mo_isFull  (M : AM) : Option (Int32 × AM) :=
  if (gI M 105 20) = 60 then f_Mo_isFull_j18  M else if (gI M 105 22) = 30 then f_Mo_isFull_j18  M else some (0, M)
set_option maxRecDepth 20000 in
theorem t_Mo_isFull {G : GT} {d : Nat}  {M : AM} {Q : AM → Option Value → Prop} {r : Int32} {M' : AM} (hW : WT M)  (hf : f_Mo_isFull  M = some (r, M')) (k : WT M' → (r = 0 ∨ r = 1) → Q M' (some (.int r)))  : Cal G d 232 [.ref 105] M Q := by
  refine A_enter ml_232 rfl ?_
  refine P_aload_n d_232_0 rfl ?_
  refine A_gI d_232_1 cn_232 fk_CordLoftModel_242 k_105 hW ?_
  refine P_bipush d_232_4 bi_60 ?_
  refine A_icmp_eq (tgt := 18) d_232_6 rfl hf (fun hf => ?_) (fun hf => ?_)
  · refine P_fgt [false] ?_
    exact t_Mo_isFull_j18 k hW  hf
  · refine P_aload_n d_232_9 rfl ?_
    refine A_gI d_232_10 cn_232 fk_CordLoftModel_245 k_105 hW ?_
    refine P_bipush d_232_13 bi_30 ?_
    refine A_icmp_ne (tgt := 22) d_232_15 rfl hf (fun hf => ?_) (fun hf => ?_)
    · refine A_iconst d_232_22 ic_0 ?_
      exact A_zret d_232_23 mr_232 hW (Or.inl rfl) hf k
    · refine P_fgt [false] ?_
      exact t_Mo_isFull_j18 k hW  hf
def f_Mo_countUnit  (M : AM) : Option (Unit × AM) :=
  wI M 105 20 ((gI M 105 20) + 1) (fun M1 => wI M1 105 22 ((gI M1 105 22) + 1) (fun M2 => some ((), M2)))
set_option maxRecDepth 20000 in
theorem t_Mo_countUnit {G : GT} {d : Nat}  {M : AM} {Q : AM → Option Value → Prop} {r : Unit} {M' : AM} (hW : WT M)  (hf : f_Mo_countUnit  M = some (r, M')) (k : WT M' → Q M' none)  : Cal G d 233 [.ref 105] M Q := by
  refine A_enter ml_233 rfl ?_
  refine P_aload_n d_233_0 rfl ?_
  refine P_dup d_233_1 rfl ?_
  refine A_gI d_233_2 cn_233 fk_CordLoftModel_242 k_105 hW ?_
  refine A_iconst d_233_5 ic_1 ?_
  refine P_iadd d_233_6 ?_
  refine A_pI d_233_7 cn_233 fp_CordLoftModel_242 k_105 hW hf (fun hW hf => ?_)
  refine P_aload_n d_233_10 rfl ?_
  refine P_dup d_233_11 rfl ?_
  refine A_gI d_233_12 cn_233 fk_CordLoftModel_245 k_105 hW ?_
  refine A_iconst d_233_15 ic_1 ?_
  refine P_iadd d_233_16 ?_
  refine A_pI d_233_17 cn_233 fp_CordLoftModel_245 k_105 hW hf (fun hW hf => ?_)
  exact A_ret d_233_20 mr_233 hW hf k
def f_Mo_asked  (M : AM) : Option (Int32 × AM) :=
  if (gI M 105 6) = 1 then if (lg_cmp (gL M 105 9) 7104884) = 0 then some (0, M) else if (lg_cmp (gL M 105 9) 1852137842) = 0 then some (1, M) else if (lg_cmp (gL M 105 9) 427071530099) = 0 then some (2, M) else if (lg_cmp (gL M 105 9) 121450625394034) = 0 then some (3, M) else if (lg_cmp (gL M 105 9) 512736130163) = 0 then some (4, M) else if (lg_cmp (gL M 105 9) 474214787188) = 0 then some (5, M) else some ((-1), M) else some ((-1), M)
set_option maxRecDepth 20000 in
theorem t_Mo_asked {G : GT} {d : Nat}  {M : AM} {Q : AM → Option Value → Prop} {r : Int32} {M' : AM} (hW : WT M)  (hf : f_Mo_asked  M = some (r, M')) (k : WT M' → Q M' (some (.int r)))  : Cal G d 234 [.ref 105] M Q := by
  refine A_enter ml_234 rfl ?_
  refine P_aload_n d_234_0 rfl ?_
  refine A_gI d_234_1 cn_234 fk_CordLoftModel_139 k_105 hW ?_
  refine A_iconst d_234_4 ic_1 ?_
  refine A_icmp_eq (tgt := 10) d_234_5 rfl hf (fun hf => ?_) (fun hf => ?_)
  · refine P_aload_n d_234_10 rfl ?_
    refine A_gL d_234_11 cn_234 fk_CordLoftModel_132 k_105 hW ?_
    refine A_ldc2 d_234_14 cn_234 cl_CordLoftModel_157 ?_
    refine P_lcmp d_234_17 ?_
    refine A_if_ne (tgt := 23) d_234_18 rfl hf (fun hf => ?_) (fun hf => ?_)
    · refine P_aload_n d_234_23 rfl ?_
      refine A_gL d_234_24 cn_234 fk_CordLoftModel_132 k_105 hW ?_
      refine A_ldc2 d_234_27 cn_234 cl_CordLoftModel_177 ?_
      refine P_lcmp d_234_30 ?_
      refine A_if_ne (tgt := 36) d_234_31 rfl hf (fun hf => ?_) (fun hf => ?_)
      · refine P_aload_n d_234_36 rfl ?_
        refine A_gL d_234_37 cn_234 fk_CordLoftModel_132 k_105 hW ?_
        refine A_ldc2 d_234_40 cn_234 cl_CordLoftModel_179 ?_
        refine P_lcmp d_234_43 ?_
        refine A_if_ne (tgt := 49) d_234_44 rfl hf (fun hf => ?_) (fun hf => ?_)
        · refine P_aload_n d_234_49 rfl ?_
          refine A_gL d_234_50 cn_234 fk_CordLoftModel_132 k_105 hW ?_
          refine A_ldc2 d_234_53 cn_234 cl_CordLoftModel_181 ?_
          refine P_lcmp d_234_56 ?_
          refine A_if_ne (tgt := 62) d_234_57 rfl hf (fun hf => ?_) (fun hf => ?_)
          · refine P_aload_n d_234_62 rfl ?_
            refine A_gL d_234_63 cn_234 fk_CordLoftModel_132 k_105 hW ?_
            refine A_ldc2 d_234_66 cn_234 cl_CordLoftModel_159 ?_
            refine P_lcmp d_234_69 ?_
            refine A_if_ne (tgt := 75) d_234_70 rfl hf (fun hf => ?_) (fun hf => ?_)
            · refine P_aload_n d_234_75 rfl ?_
              refine A_gL d_234_76 cn_234 fk_CordLoftModel_132 k_105 hW ?_
              refine A_ldc2 d_234_79 cn_234 cl_CordLoftModel_183 ?_
              refine P_lcmp d_234_82 ?_
              refine A_if_ne (tgt := 90) d_234_83 rfl hf (fun hf => ?_) (fun hf => ?_)
              · refine A_iconst d_234_90 ic_m1 ?_
                exact A_iret d_234_91 mr_234 hW hf k
              · refine A_iconst d_234_86 ic_5 ?_
                refine P_goto (tgt := 91) d_234_87 rfl ?_
                exact A_iret d_234_91 mr_234 hW hf k
            · refine A_iconst d_234_73 ic_4 ?_
              exact A_iret d_234_74 mr_234 hW hf k
          · refine A_iconst d_234_60 ic_3 ?_
            exact A_iret d_234_61 mr_234 hW hf k
        · refine A_iconst d_234_47 ic_2 ?_
          exact A_iret d_234_48 mr_234 hW hf k
      · refine A_iconst d_234_34 ic_1 ?_
        exact A_iret d_234_35 mr_234 hW hf k
    · refine A_iconst d_234_21 ic_0 ?_
      exact A_iret d_234_22 mr_234 hW hf k
  · refine A_iconst d_234_8 ic_m1 ?_
    exact A_iret d_234_9 mr_234 hW hf k
def f_Mo_add (a1 : Int32) (a2 : Int32) (M : AM) : Option (Unit × AM) :=
  ast 320 M 108 (gI M 105 17) a1 (fun M1 => ast 320 M1 109 (gI M1 105 17) a2 (fun M2 => wI M2 105 17 ((gI M2 105 17) + 1) (fun M3 => some ((), M3))))
set_option maxRecDepth 20000 in
theorem t_Mo_add {G : GT} {d : Nat} {a1 : Int32} {a2 : Int32} {M : AM} {Q : AM → Option Value → Prop} {r : Unit} {M' : AM} (hW : WT M)  (hf : f_Mo_add a1 a2 M = some (r, M')) (k : WT M' → Q M' none)  : Cal G d 235 [.ref 105, .int a1, .int a2] M Q := by
  refine A_enter ml_235 rfl ?_
  refine P_aload_n d_235_0 rfl ?_
  refine A_gF d_235_1 cn_235 fk_CordLoftModel_21 ft_13_11 k_105 hW ?_
  refine P_aload_n d_235_4 rfl ?_
  refine A_gI d_235_5 cn_235 fk_CordLoftModel_226 k_105 hW ?_
  refine P_iload_n d_235_8 rfl ?_
  refine A_iast d_235_9 k_108 l_108 hW hf (fun hW hf => ?_)
  refine P_aload_n d_235_10 rfl ?_
  refine A_gF d_235_11 cn_235 fk_CordLoftModel_24 ft_13_12 k_105 hW ?_
  refine P_aload_n d_235_14 rfl ?_
  refine A_gI d_235_15 cn_235 fk_CordLoftModel_226 k_105 hW ?_
  refine P_iload_n d_235_18 rfl ?_
  refine A_iast d_235_19 k_109 l_109 hW hf (fun hW hf => ?_)
  refine P_aload_n d_235_20 rfl ?_
  refine P_dup d_235_21 rfl ?_
  refine A_gI d_235_22 cn_235 fk_CordLoftModel_226 k_105 hW ?_
  refine A_iconst d_235_25 ic_1 ?_
  refine P_iadd d_235_26 ?_
  refine A_pI d_235_27 cn_235 fp_CordLoftModel_226 k_105 hW hf (fun hW hf => ?_)
  exact A_ret d_235_30 mr_235 hW hf k
def f_Mo_unit_j172 (s1 : Int32) (s2 : Int32) (M : AM) : Option (Unit × AM) :=
  bnd (f_Mo_add s1 s2 M) (fun r1 M2 => bnd (f_Mo_token  M2) (fun r3 M4 => some ((), M4)))
set_option maxRecDepth 20000 in
theorem t_Mo_unit_j172 {G : GT} {d : Nat} {s1 : Int32} {s2 : Int32} {M : AM} {Q : AM → Option Value → Prop} {r : Unit} {M' : AM} (k : WT M' → Q M' none) (hW : WT M)  (hf : f_Mo_unit_j172 s1 s2 M = some (r, M')) : PW G (d + 3) 228 172 [.ref 105, ux, ux] [.int s2, .int s1, .ref 105] M 0 0 Q := by
  refine A_V2 d_228_172 vk_228_235 ml_235 rfl k_105 hW rfl hf (fun r1 M2 hc hf => t_Mo_add hW  hc (fun hW => ?_))
  refine P_aload_n d_228_175 rfl ?_
  refine A_V0 d_228_176 vk_228_202 ml_205 rfl k_105 hW rfl hf (fun r3 M4 hc hf => t_Mo_token hW  hc (fun hW => ?_))
  exact A_ret d_228_179 mr_228 hW hf k
def f_Mo_unit_j160 (v2 : Int32) (s1 : Int32) (M : AM) : Option (Unit × AM) :=
  if 0 ≤ v2 then f_Mo_unit_j172 s1 v2 M else f_Mo_unit_j172 s1 (gI M 105 8) M
set_option maxRecDepth 20000 in
theorem t_Mo_unit_j160 {G : GT} {d : Nat} {v2 : Int32} {s1 : Int32} {M : AM} {Q : AM → Option Value → Prop} {r : Unit} {M' : AM} (k : WT M' → Q M' none) (hW : WT M)  (hf : f_Mo_unit_j160 v2 s1 M = some (r, M')) : PW G (d + 3) 228 160 [.ref 105, ux, .int v2] [.int s1, .ref 105] M 0 0 Q := by
  refine P_iload_n d_228_160 rfl ?_
  refine A_if_ge (tgt := 171) d_228_161 rfl hf (fun hf => ?_) (fun hf => ?_)
  · refine P_iload_n d_228_171 rfl ?_
    refine P_fgt [true, false, false] ?_
    exact t_Mo_unit_j172 k hW  hf
  · refine P_aload_n d_228_164 rfl ?_
    refine A_gI d_228_165 cn_228 fk_CordLoftModel_136 k_105 hW ?_
    refine P_goto (tgt := 172) d_228_168 rfl ?_
    refine P_fgt [true, false, false] ?_
    exact t_Mo_unit_j172 k hW  hf
def f_Mo_unit_j138 (v2 : Int32) (M : AM) : Option (Unit × AM) :=
  if (gI M 105 2) ≤ 0 then bnd (f_Mo_countUnit  M) (fun r1 M2 => if 0 ≤ v2 then f_Mo_unit_j160 v2 1 M2 else f_Mo_unit_j160 v2 0 M2) else some ((), M)
set_option maxRecDepth 20000 in
theorem t_Mo_unit_j138 {G : GT} {d : Nat} {v2 : Int32} {M : AM} {Q : AM → Option Value → Prop} {r : Unit} {M' : AM} (k : WT M' → Q M' none) (hW : WT M)  (hf : f_Mo_unit_j138 v2 M = some (r, M')) : PW G (d + 3) 228 138 [.ref 105, ux, .int v2] [] M 0 0 Q := by
  refine P_aload_n d_228_138 rfl ?_
  refine A_gI d_228_139 cn_228 fk_CordLoftModel_152 k_105 hW ?_
  refine A_if_le (tgt := 146) d_228_142 rfl hf (fun hf => ?_) (fun hf => ?_)
  · refine P_aload_n d_228_146 rfl ?_
    refine A_V0 d_228_147 vk_228_257 ml_233 rfl k_105 hW rfl hf (fun r1 M2 hc hf => t_Mo_countUnit hW  hc (fun hW => ?_))
    refine P_aload_n d_228_150 rfl ?_
    refine P_iload_n d_228_151 rfl ?_
    refine A_if_ge (tgt := 159) d_228_152 rfl hf (fun hf => ?_) (fun hf => ?_)
    · refine A_iconst d_228_159 ic_1 ?_
      exact t_Mo_unit_j160 k hW  hf
    · refine A_iconst d_228_155 ic_0 ?_
      refine P_goto (tgt := 160) d_228_156 rfl ?_
      exact t_Mo_unit_j160 k hW  hf
  · exact A_ret d_228_145 mr_228 hW hf k
def f_Mo_unit_j133 (v2 : Int32) (M : AM) : Option (Unit × AM) :=
  bnd (f_Mo_wrong 2 M) (fun r1 M2 => f_Mo_unit_j138 v2 M2)
set_option maxRecDepth 20000 in
theorem t_Mo_unit_j133 {G : GT} {d : Nat} {v2 : Int32} {M : AM} {Q : AM → Option Value → Prop} {r : Unit} {M' : AM} (k : WT M' → Q M' none) (hW : WT M)  (hf : f_Mo_unit_j133 v2 M = some (r, M')) : PW G (d + 3) 228 133 [.ref 105, ux, .int v2] [] M 0 0 Q := by
  refine P_aload_n d_228_133 rfl ?_
  refine A_iconst d_228_134 ic_2 ?_
  refine A_V1 d_228_135 vk_228_199 ml_216 rfl k_105 hW rfl hf (fun r1 M2 hc hf => t_Mo_wrong hW  hc (fun hW => ?_))
  exact t_Mo_unit_j138 k hW  hf
def f_Mo_unit_j126 (v2 : Int32) (M : AM) : Option (Unit × AM) :=
  bnd (f_Mo_isFull  M) (fun r1 M2 => if r1 = 0 then f_Mo_unit_j138 v2 M2 else f_Mo_unit_j133 v2 M2)
set_option maxRecDepth 20000 in
theorem t_Mo_unit_j126 {G : GT} {d : Nat} {v2 : Int32} {M : AM} {Q : AM → Option Value → Prop} {r : Unit} {M' : AM} (k : WT M' → Q M' none) (hW : WT M)  (hf : f_Mo_unit_j126 v2 M = some (r, M')) : PW G (d + 3) 228 126 [.ref 105, ux, .int v2] [] M 0 0 Q := by
  refine P_aload_n d_228_126 rfl ?_
  refine A_V0 d_228_127 vk_228_254 ml_232 rfl k_105 hW rfl hf (fun r1 M2 hc hf => t_Mo_isFull hW  hc (fun hW hb2 => ?_))
  refine A_if_eq (tgt := 138) d_228_130 rfl hf (fun hf => ?_) (fun hf => ?_)
  · exact t_Mo_unit_j138 k hW  hf
  · exact t_Mo_unit_j133 k hW  hf
def f_Mo_unit_j83 (rec : Int32 → AM → Option (Unit × AM)) (v1 : Int32) (M : AM) : Option (Unit × AM) :=
  bnd (f_Mo_countUnit  M) (fun r1 M2 => bnd (f_Mo_openUp 20 M2) (fun r3 M4 => rec v1 M4))
set_option maxRecDepth 20000 in
theorem t_Mo_unit_j83 {G : GT} {d : Nat} {v1 : Int32} {M : AM} {Q : AM → Option Value → Prop} {yo : Unit} {Mo : AM} {rec : Int32 → AM → Option (Unit × AM)} (hrec : ∀ (v1 : Int32) (M : AM), WT M → rec v1 M = some (yo, Mo) → PW G (d + 3) 228 2 [.ref 105, .int v1, ux] [] M 0 0 Q) (k1 : WT Mo → PW G (d + 3) 228 101 [.ref 105, ux, ux] [] Mo 0 0 Q) (hW : WT M)  (hf : f_Mo_unit_j83 rec v1 M = some (yo, Mo)) : PW G (d + 3) 228 83 [.ref 105, .int v1, ux] [] M 0 0 Q := by
  refine P_aload_n d_228_83 rfl ?_
  refine A_V0 d_228_84 vk_228_257 ml_233 rfl k_105 hW rfl hf (fun r1 M2 hc hf => t_Mo_countUnit hW  hc (fun hW => ?_))
  refine P_aload_n d_228_87 rfl ?_
  refine P_bipush d_228_88 bi_20 ?_
  refine A_V1 d_228_90 vk_228_251 ml_231 rfl k_105 hW rfl hf (fun r3 M4 hc hf => t_Mo_openUp hW  hc (fun hW => ?_))
  refine P_goto (tgt := 2) d_228_93 rfl ?_
  exact hrec _ _ hW  hf
def f_Mo_unit_j78 (rec : Int32 → AM → Option (Unit × AM)) (v1 : Int32) (M : AM) : Option (Unit × AM) :=
  bnd (f_Mo_wrong 2 M) (fun r1 M2 => f_Mo_unit_j83 rec v1 M2)
set_option maxRecDepth 20000 in
theorem t_Mo_unit_j78 {G : GT} {d : Nat} {v1 : Int32} {M : AM} {Q : AM → Option Value → Prop} {yo : Unit} {Mo : AM} {rec : Int32 → AM → Option (Unit × AM)} (hrec : ∀ (v1 : Int32) (M : AM), WT M → rec v1 M = some (yo, Mo) → PW G (d + 3) 228 2 [.ref 105, .int v1, ux] [] M 0 0 Q) (k1 : WT Mo → PW G (d + 3) 228 101 [.ref 105, ux, ux] [] Mo 0 0 Q) (hW : WT M)  (hf : f_Mo_unit_j78 rec v1 M = some (yo, Mo)) : PW G (d + 3) 228 78 [.ref 105, .int v1, ux] [] M 0 0 Q := by
  refine P_aload_n d_228_78 rfl ?_
  refine A_iconst d_228_79 ic_2 ?_
  refine A_V1 d_228_80 vk_228_199 ml_216 rfl k_105 hW rfl hf (fun r1 M2 hc hf => t_Mo_wrong hW  hc (fun hW => ?_))
  exact t_Mo_unit_j83 hrec k1 hW  hf
def f_Mo_unit_j53 (rec : Int32 → AM → Option (Unit × AM)) (v1 : Int32) (M : AM) : Option (Unit × AM) :=
  if (gI M 105 6) = 40 then bnd (f_Mo_isFull  M) (fun r1 M2 => if r1 = 0 then if (gI M2 105 23) ≤ 6 then f_Mo_unit_j83 rec v1 M2 else f_Mo_unit_j78 rec v1 M2 else f_Mo_unit_j78 rec v1 M2) else rec 0 M
set_option maxRecDepth 20000 in
theorem t_Mo_unit_j53 {G : GT} {d : Nat} {v1 : Int32} {M : AM} {Q : AM → Option Value → Prop} {yo : Unit} {Mo : AM} {rec : Int32 → AM → Option (Unit × AM)} (hrec : ∀ (v1 : Int32) (M : AM), WT M → rec v1 M = some (yo, Mo) → PW G (d + 3) 228 2 [.ref 105, .int v1, ux] [] M 0 0 Q) (k1 : WT Mo → PW G (d + 3) 228 101 [.ref 105, ux, ux] [] Mo 0 0 Q) (hW : WT M)  (hf : f_Mo_unit_j53 rec v1 M = some (yo, Mo)) : PW G (d + 3) 228 53 [.ref 105, .int v1, ux] [] M 0 0 Q := by
  refine P_aload_n d_228_53 rfl ?_
  refine A_gI d_228_54 cn_228 fk_CordLoftModel_139 k_105 hW ?_
  refine P_bipush d_228_57 bi_40 ?_
  refine A_icmp_ne (tgt := 96) d_228_59 rfl hf (fun hf => ?_) (fun hf => ?_)
  · refine A_iconst d_228_96 ic_0 ?_
    refine A_istore_n d_228_97 ml_228 rfl rfl ?_
    refine P_goto (tgt := 2) d_228_98 rfl ?_
    exact hrec _ _ hW  hf
  · refine P_aload_n d_228_62 rfl ?_
    refine A_V0 d_228_63 vk_228_254 ml_232 rfl k_105 hW rfl hf (fun r1 M2 hc hf => t_Mo_isFull hW  hc (fun hW hb2 => ?_))
    refine A_if_ne (tgt := 78) d_228_66 rfl hf (fun hf => ?_) (fun hf => ?_)
    · exact t_Mo_unit_j78 hrec k1 hW  hf
    · refine P_aload_n d_228_69 rfl ?_
      refine A_gI d_228_70 cn_228 fk_CordLoftModel_239 k_105 hW ?_
      refine P_bipush d_228_73 bi_6 ?_
      refine A_icmp_le (tgt := 83) d_228_75 rfl hf (fun hf => ?_) (fun hf => ?_)
      · exact t_Mo_unit_j83 hrec k1 hW  hf
      · exact t_Mo_unit_j78 hrec k1 hW  hf
def f_Mo_unit_j44 (rec : Int32 → AM → Option (Unit × AM)) (v1 : Int32) (M : AM) : Option (Unit × AM) :=
  bnd (f_Mo_openUp 21 M) (fun r1 M2 => rec v1 M2)
set_option maxRecDepth 20000 in
theorem t_Mo_unit_j44 {G : GT} {d : Nat} {v1 : Int32} {M : AM} {Q : AM → Option Value → Prop} {yo : Unit} {Mo : AM} {rec : Int32 → AM → Option (Unit × AM)} (hrec : ∀ (v1 : Int32) (M : AM), WT M → rec v1 M = some (yo, Mo) → PW G (d + 3) 228 2 [.ref 105, .int v1, ux] [] M 0 0 Q) (k1 : WT Mo → PW G (d + 3) 228 101 [.ref 105, ux, ux] [] Mo 0 0 Q) (hW : WT M)  (hf : f_Mo_unit_j44 rec v1 M = some (yo, Mo)) : PW G (d + 3) 228 44 [.ref 105, .int v1, ux] [] M 0 0 Q := by
  refine P_aload_n d_228_44 rfl ?_
  refine P_bipush d_228_45 bi_21 ?_
  refine A_V1 d_228_47 vk_228_251 ml_231 rfl k_105 hW rfl hf (fun r1 M2 hc hf => t_Mo_openUp hW  hc (fun hW => ?_))
  refine P_goto (tgt := 2) d_228_50 rfl ?_
  exact hrec _ _ hW  hf
def f_Mo_unit_b2 (rec : Int32 → AM → Option (Unit × AM))  (v1 : Int32) (M : AM) : Option (Unit × AM) :=
  if v1 = 0 then some ((), M) else if (gI M 105 2) = 0 then bnd (f_Mo_isWord 7237492 M) (fun r1 M2 => if r1 = 0 then f_Mo_unit_j53 rec v1 M2 else bnd (f_Mo_mayNot  M2) (fun r3 M4 => if r3 = 0 then f_Mo_unit_j53 rec v1 M4 else if (gI M4 105 23) ≤ 6 then f_Mo_unit_j44 rec v1 M4 else bnd (f_Mo_wrong 2 M4) (fun r5 M6 => f_Mo_unit_j44 rec v1 M6))) else some ((), M)
def f_Mo_unit_l2  : Nat → Int32 → AM → Option (Unit × AM)
  | 0, _, _ => none
  | n + 1, v1, M => f_Mo_unit_b2 (f_Mo_unit_l2  n)  v1 M
set_option maxRecDepth 20000 in
theorem t_Mo_unit_b2 {G : GT} {d : Nat}  {v1 : Int32} {M : AM} {Q : AM → Option Value → Prop} {yo : Unit} {Mo : AM} {rec : Int32 → AM → Option (Unit × AM)} (hrec : ∀ (v1 : Int32) (M : AM), WT M → rec v1 M = some (yo, Mo) → PW G (d + 3) 228 2 [.ref 105, .int v1, ux] [] M 0 0 Q) (k1 : WT Mo → PW G (d + 3) 228 101 [.ref 105, ux, ux] [] Mo 0 0 Q) (hW : WT M)   (hf : f_Mo_unit_b2 rec  v1 M = some (yo, Mo)) : PW G (d + 3) 228 2 [.ref 105, .int v1, ux] [] M 0 0 Q := by
  refine P_iload_n d_228_2 rfl ?_
  refine A_if_eq (tgt := 101) d_228_3 rfl hf (fun hf => ?_) (fun hf => ?_)
  · refine P_fgt [true, false, false] ?_
    cases hf
    exact k1 hW 
  · refine P_aload_n d_228_6 rfl ?_
    refine A_gI d_228_7 cn_228 fk_CordLoftModel_152 k_105 hW ?_
    refine A_if_ne (tgt := 101) d_228_10 rfl hf (fun hf => ?_) (fun hf => ?_)
    · refine P_fgt [true, false, false] ?_
      cases hf
      exact k1 hW 
    · refine P_aload_n d_228_13 rfl ?_
      refine A_ldc2 d_228_14 cn_228 cl_CordLoftModel_189 ?_
      refine A_V1 d_228_17 vk_228_195 ml_211 rfl k_105 hW rfl hf (fun r1 M2 hc hf => t_Mo_isWord hW  hc (fun hW hb2 => ?_))
      refine A_if_eq (tgt := 53) d_228_20 rfl hf (fun hf => ?_) (fun hf => ?_)
      · exact t_Mo_unit_j53 hrec k1 hW  hf
      · refine P_aload_n d_228_23 rfl ?_
        refine A_V0 d_228_24 vk_228_248 ml_229 rfl k_105 hW rfl hf (fun r3 M4 hc hf => t_Mo_mayNot hW  hc (fun hW hb4 => ?_))
        refine A_if_eq (tgt := 53) d_228_27 rfl hf (fun hf => ?_) (fun hf => ?_)
        · exact t_Mo_unit_j53 hrec k1 hW  hf
        · refine P_aload_n d_228_30 rfl ?_
          refine A_gI d_228_31 cn_228 fk_CordLoftModel_239 k_105 hW ?_
          refine P_bipush d_228_34 bi_6 ?_
          refine A_icmp_le (tgt := 44) d_228_36 rfl hf (fun hf => ?_) (fun hf => ?_)
          · exact t_Mo_unit_j44 hrec k1 hW  hf
          · refine P_aload_n d_228_39 rfl ?_
            refine A_iconst d_228_40 ic_2 ?_
            refine A_V1 d_228_41 vk_228_199 ml_216 rfl k_105 hW rfl hf (fun r5 M6 hc hf => t_Mo_wrong hW  hc (fun hW => ?_))
            exact t_Mo_unit_j44 hrec k1 hW  hf
theorem t_Mo_unit_l2 {G : GT} {d : Nat}  {Q : AM → Option Value → Prop} {yo : Unit} {Mo : AM} (k1 : WT Mo → PW G (d + 3) 228 101 [.ref 105, ux, ux] [] Mo 0 0 Q)  : ∀ (z : Nat) (v1 : Int32) (M : AM), WT M → f_Mo_unit_l2  z v1 M = some (yo, Mo) → PW G (d + 3) 228 2 [.ref 105, .int v1, ux] [] M 0 0 Q := by
  intro z
  induction z with
  | zero => intro v1 M hW hf; cases hf
  | succ z ih => intro v1 M hW hf; exact t_Mo_unit_b2 (fun v1 M hW hf => ih v1 M hW hf) k1 hW   hf
def f_Mo_unit  (M : AM) : Option (Unit × AM) :=
  bnd (f_Mo_unit_l2  fu 1 M) (fun y1 M2 => if (gI M2 105 2) ≤ 0 then bnd (f_Mo_asked  M2) (fun r3 M4 => if (gI M4 105 6) = 2 then f_Mo_unit_j126 r3 M4 else if r3 < 0 then f_Mo_unit_j133 r3 M4 else f_Mo_unit_j126 r3 M4) else some ((), M2))
set_option maxRecDepth 20000 in
theorem t_Mo_unit {G : GT} {d : Nat}  {M : AM} {Q : AM → Option Value → Prop} {r : Unit} {M' : AM} (hW : WT M)  (hf : f_Mo_unit  M = some (r, M')) (k : WT M' → Q M' none)  : Cal G (d + 3) 228 [.ref 105] M Q := by
  refine A_enter ml_228 rfl ?_
  refine A_iconst d_228_0 ic_1 ?_
  refine A_istore_n d_228_1 ml_228 rfl rfl ?_
  obtain ⟨y1, M2, hl, hf⟩ := bnd_some hf
  refine t_Mo_unit_l2 (fun hW => ?_)  fu _ _ hW  hl
  refine P_aload_n d_228_101 rfl ?_
  refine A_gI d_228_102 cn_228 fk_CordLoftModel_152 k_105 hW ?_
  refine A_if_le (tgt := 109) d_228_105 rfl hf (fun hf => ?_) (fun hf => ?_)
  · refine P_aload_n d_228_109 rfl ?_
    refine A_V0 d_228_110 vk_228_260 ml_234 rfl k_105 hW rfl hf (fun r3 M4 hc hf => t_Mo_asked hW  hc (fun hW => ?_))
    refine A_istore_n d_228_113 ml_228 rfl rfl ?_
    refine P_aload_n d_228_114 rfl ?_
    refine A_gI d_228_115 cn_228 fk_CordLoftModel_139 k_105 hW ?_
    refine A_iconst d_228_118 ic_2 ?_
    refine A_icmp_eq (tgt := 126) d_228_119 rfl hf (fun hf => ?_) (fun hf => ?_)
    · exact t_Mo_unit_j126 k hW  hf
    · refine P_iload_n d_228_122 rfl ?_
      refine A_if_lt (tgt := 133) d_228_123 rfl hf (fun hf => ?_) (fun hf => ?_)
      · exact t_Mo_unit_j133 k hW  hf
      · exact t_Mo_unit_j126 k hW  hf
  · exact A_ret d_228_108 mr_228 hW hf k
def f_Mo_sign_j98  (M : AM) : Option (Int32 × AM) :=
  some (gI M 105 6, M)
set_option maxRecDepth 20000 in
theorem t_Mo_sign_j98 {G : GT} {d : Nat}  {M : AM} {Q : AM → Option Value → Prop} {r : Int32} {M' : AM} (k : WT M' → Q M' (some (.int r))) (hW : WT M)  (hf : f_Mo_sign_j98  M = some (r, M')) : PW G (d + 1) 236 98 [.ref 105] [] M 0 0 Q := by
  refine P_aload_n d_236_98 rfl ?_
  refine A_gI d_236_99 cn_236 fk_CordLoftModel_139 k_105 hW ?_
  refine P_goto (tgt := 106) d_236_102 rfl ?_
  exact A_iret d_236_106 mr_236 hW hf k
def f_Mo_sign  (M : AM) : Option (Int32 × AM) :=
  bnd (f_Mo_isWord 6385252 M) (fun r1 M2 => if r1 = 0 then bnd (f_Mo_isWord 28530 M2) (fun r3 M4 => if r3 = 0 then if (gI M4 105 6) = 60 then f_Mo_sign_j98  M4 else if (gI M4 105 6) = 62 then f_Mo_sign_j98  M4 else if (gI M4 105 6) = 61 then f_Mo_sign_j98  M4 else if (gI M4 105 6) = 43 then f_Mo_sign_j98  M4 else if (gI M4 105 6) = 45 then f_Mo_sign_j98  M4 else if (gI M4 105 6) = 42 then f_Mo_sign_j98  M4 else if (gI M4 105 6) = 47 then f_Mo_sign_j98  M4 else if (gI M4 105 6) = 37 then f_Mo_sign_j98  M4 else some (0, M4) else some (124, M4)) else some (38, M2))
set_option maxRecDepth 20000 in
theorem t_Mo_sign {G : GT} {d : Nat}  {M : AM} {Q : AM → Option Value → Prop} {r : Int32} {M' : AM} (hW : WT M)  (hf : f_Mo_sign  M = some (r, M')) (k : WT M' → Q M' (some (.int r)))  : Cal G (d + 1) 236 [.ref 105] M Q := by
  refine A_enter ml_236 rfl ?_
  refine P_aload_n d_236_0 rfl ?_
  refine A_ldc2 d_236_1 cn_236 cl_CordLoftModel_185 ?_
  refine A_V1 d_236_4 vk_236_195 ml_211 rfl k_105 hW rfl hf (fun r1 M2 hc hf => t_Mo_isWord hW  hc (fun hW hb2 => ?_))
  refine A_if_eq (tgt := 13) d_236_7 rfl hf (fun hf => ?_) (fun hf => ?_)
  · refine P_aload_n d_236_13 rfl ?_
    refine A_ldc2 d_236_14 cn_236 cl_CordLoftModel_187 ?_
    refine A_V1 d_236_17 vk_236_195 ml_211 rfl k_105 hW rfl hf (fun r3 M4 hc hf => t_Mo_isWord hW  hc (fun hW hb4 => ?_))
    refine A_if_eq (tgt := 26) d_236_20 rfl hf (fun hf => ?_) (fun hf => ?_)
    · refine P_aload_n d_236_26 rfl ?_
      refine A_gI d_236_27 cn_236 fk_CordLoftModel_139 k_105 hW ?_
      refine P_bipush d_236_30 bi_60 ?_
      refine A_icmp_eq (tgt := 98) d_236_32 rfl hf (fun hf => ?_) (fun hf => ?_)
      · exact t_Mo_sign_j98 k hW  hf
      · refine P_aload_n d_236_35 rfl ?_
        refine A_gI d_236_36 cn_236 fk_CordLoftModel_139 k_105 hW ?_
        refine P_bipush d_236_39 bi_62 ?_
        refine A_icmp_eq (tgt := 98) d_236_41 rfl hf (fun hf => ?_) (fun hf => ?_)
        · exact t_Mo_sign_j98 k hW  hf
        · refine P_aload_n d_236_44 rfl ?_
          refine A_gI d_236_45 cn_236 fk_CordLoftModel_139 k_105 hW ?_
          refine P_bipush d_236_48 bi_61 ?_
          refine A_icmp_eq (tgt := 98) d_236_50 rfl hf (fun hf => ?_) (fun hf => ?_)
          · exact t_Mo_sign_j98 k hW  hf
          · refine P_aload_n d_236_53 rfl ?_
            refine A_gI d_236_54 cn_236 fk_CordLoftModel_139 k_105 hW ?_
            refine P_bipush d_236_57 bi_43 ?_
            refine A_icmp_eq (tgt := 98) d_236_59 rfl hf (fun hf => ?_) (fun hf => ?_)
            · exact t_Mo_sign_j98 k hW  hf
            · refine P_aload_n d_236_62 rfl ?_
              refine A_gI d_236_63 cn_236 fk_CordLoftModel_139 k_105 hW ?_
              refine P_bipush d_236_66 bi_45 ?_
              refine A_icmp_eq (tgt := 98) d_236_68 rfl hf (fun hf => ?_) (fun hf => ?_)
              · exact t_Mo_sign_j98 k hW  hf
              · refine P_aload_n d_236_71 rfl ?_
                refine A_gI d_236_72 cn_236 fk_CordLoftModel_139 k_105 hW ?_
                refine P_bipush d_236_75 bi_42 ?_
                refine A_icmp_eq (tgt := 98) d_236_77 rfl hf (fun hf => ?_) (fun hf => ?_)
                · exact t_Mo_sign_j98 k hW  hf
                · refine P_aload_n d_236_80 rfl ?_
                  refine A_gI d_236_81 cn_236 fk_CordLoftModel_139 k_105 hW ?_
                  refine P_bipush d_236_84 bi_47 ?_
                  refine A_icmp_eq (tgt := 98) d_236_86 rfl hf (fun hf => ?_) (fun hf => ?_)
                  · exact t_Mo_sign_j98 k hW  hf
                  · refine P_aload_n d_236_89 rfl ?_
                    refine A_gI d_236_90 cn_236 fk_CordLoftModel_139 k_105 hW ?_
                    refine P_bipush d_236_93 bi_37 ?_
                    refine A_icmp_ne (tgt := 105) d_236_95 rfl hf (fun hf => ?_) (fun hf => ?_)
                    · refine A_iconst d_236_105 ic_0 ?_
                      exact A_iret d_236_106 mr_236 hW hf k
                    · exact t_Mo_sign_j98 k hW  hf
    · refine P_bipush d_236_23 bi_124 ?_
      exact A_iret d_236_25 mr_236 hW hf k
  · refine P_bipush d_236_10 bi_38 ?_
    exact A_iret d_236_12 mr_236 hW hf k
def f_Mo_hasBracket_j27 (rec : Int32 → Int32 → AM → Option (Int32 × AM)) (v2 : Int32) (M : AM) : Option (Int32 × AM) :=
  rec 1 (v2 + 1) M
set_option maxRecDepth 20000 in
theorem t_Mo_hasBracket_j27 {G : GT} {d : Nat} {v2 : Int32} {M : AM} {Q : AM → Option Value → Prop} {yo : Int32} {Mo : AM} {rec : Int32 → Int32 → AM → Option (Int32 × AM)} (hrec : ∀ (v1 : Int32) (v2 : Int32) (M : AM), WT M → rec v1 v2 M = some (yo, Mo) → PW G d 237 4 [.ref 105, .int v1, .int v2] [] M 0 0 Q) (k1 : WT Mo → PW G d 237 39 [ux, .int yo, ux] [] Mo 0 0 Q) (hW : WT M)  (hf : f_Mo_hasBracket_j27 rec v2 M = some (yo, Mo)) : PW G d 237 27 [.ref 105, ux, .int v2] [] M 0 0 Q := by
  refine A_iconst d_237_27 ic_1 ?_
  refine P_goto (tgt := 32) d_237_28 rfl ?_
  refine A_istore_n d_237_32 ml_237 rfl rfl ?_
  refine A_iinc d_237_33 ic_1 rfl ml_237 rfl rfl ?_
  refine P_goto (tgt := 4) d_237_36 rfl ?_
  exact hrec _ _ _ hW  hf
def f_Mo_hasBracket_b4 (rec : Int32 → Int32 → AM → Option (Int32 × AM))  (v1 : Int32) (v2 : Int32) (M : AM) : Option (Int32 × AM) :=
  if (gI M 105 19) ≤ v2 then some (v1, M) else if v1 = 0 then ald 160 M 112 v2 (fun x1 => if x1 = 20 then f_Mo_hasBracket_j27 rec v2 M else rec 0 (v2 + 1) M) else f_Mo_hasBracket_j27 rec v2 M
def f_Mo_hasBracket_l4  : Nat → Int32 → Int32 → AM → Option (Int32 × AM)
  | 0, _, _, _ => none
  | n + 1, v1, v2, M => f_Mo_hasBracket_b4 (f_Mo_hasBracket_l4  n)  v1 v2 M
set_option maxRecDepth 20000 in
theorem t_Mo_hasBracket_b4 {G : GT} {d : Nat}  {v1 : Int32} {v2 : Int32} {M : AM} {Q : AM → Option Value → Prop} {yo : Int32} {Mo : AM} {rec : Int32 → Int32 → AM → Option (Int32 × AM)} (hrec : ∀ (v1 : Int32) (v2 : Int32) (M : AM), WT M → rec v1 v2 M = some (yo, Mo) → PW G d 237 4 [.ref 105, .int v1, .int v2] [] M 0 0 Q) (k1 : WT Mo → PW G d 237 39 [ux, .int yo, ux] [] Mo 0 0 Q) (hW : WT M)   (hf : f_Mo_hasBracket_b4 rec  v1 v2 M = some (yo, Mo)) : PW G d 237 4 [.ref 105, .int v1, .int v2] [] M 0 0 Q := by
  refine P_iload_n d_237_4 rfl ?_
  refine P_aload_n d_237_5 rfl ?_
  refine A_gI d_237_6 cn_237 fk_CordLoftModel_229 k_105 hW ?_
  refine A_icmp_ge (tgt := 39) d_237_9 rfl hf (fun hf => ?_) (fun hf => ?_)
  · refine P_fgt [false, true, false] ?_
    cases hf
    exact k1 hW 
  · refine P_iload_n d_237_12 rfl ?_
    refine A_if_ne (tgt := 27) d_237_13 rfl hf (fun hf => ?_) (fun hf => ?_)
    · refine P_fgt [true, false, true] ?_
      exact t_Mo_hasBracket_j27 hrec k1 hW  hf
    · refine P_aload_n d_237_16 rfl ?_
      refine A_gF d_237_17 cn_237 fk_CordLoftModel_33 ft_13_15 k_105 hW ?_
      refine P_iload_n d_237_20 rfl ?_
      refine A_iald d_237_21 k_112 l_112 hW hf (fun hf => ?_)
      refine P_bipush d_237_22 bi_20 ?_
      refine A_icmp_ne (tgt := 31) d_237_24 rfl hf (fun hf => ?_) (fun hf => ?_)
      · refine A_iconst d_237_31 ic_0 ?_
        refine A_istore_n d_237_32 ml_237 rfl rfl ?_
        refine A_iinc d_237_33 ic_1 rfl ml_237 rfl rfl ?_
        refine P_goto (tgt := 4) d_237_36 rfl ?_
        exact hrec _ _ _ hW  hf
      · refine P_fgt [true, false, true] ?_
        exact t_Mo_hasBracket_j27 hrec k1 hW  hf
theorem t_Mo_hasBracket_l4 {G : GT} {d : Nat}  {Q : AM → Option Value → Prop} {yo : Int32} {Mo : AM} (k1 : WT Mo → PW G d 237 39 [ux, .int yo, ux] [] Mo 0 0 Q)  : ∀ (z : Nat) (v1 : Int32) (v2 : Int32) (M : AM), WT M → f_Mo_hasBracket_l4  z v1 v2 M = some (yo, Mo) → PW G d 237 4 [.ref 105, .int v1, .int v2] [] M 0 0 Q := by
  intro z
  induction z with
  | zero => intro v1 v2 M hW hf; cases hf
  | succ z ih => intro v1 v2 M hW hf; exact t_Mo_hasBracket_b4 (fun v1 v2 M hW hf => ih v1 v2 M hW hf) k1 hW   hf
def f_Mo_hasBracket  (M : AM) : Option (Int32 × AM) :=
  bnd (f_Mo_hasBracket_l4  fu 0 0 M) (fun y1 M2 => ckB y1 (some (y1, M2)))
set_option maxRecDepth 20000 in
theorem t_Mo_hasBracket {G : GT} {d : Nat}  {M : AM} {Q : AM → Option Value → Prop} {r : Int32} {M' : AM} (hW : WT M)  (hf : f_Mo_hasBracket  M = some (r, M')) (k : WT M' → (r = 0 ∨ r = 1) → Q M' (some (.int r)))  : Cal G d 237 [.ref 105] M Q := by
  refine A_enter ml_237 rfl ?_
  refine A_iconst d_237_0 ic_0 ?_
  refine A_istore_n d_237_1 ml_237 rfl rfl ?_
  refine A_iconst d_237_2 ic_0 ?_
  refine A_istore_n d_237_3 ml_237 rfl rfl ?_
  obtain ⟨y1, M2, hl, hf⟩ := bnd_some hf
  refine t_Mo_hasBracket_l4 (fun hW => ?_)  fu _ _ _ hW  hl
  refine P_iload_n d_237_39 rfl ?_
  refine A_ckB hf (fun hb3 hf => ?_)
  exact A_zret d_237_40 mr_237 hW hb3 hf k
def f_Mo_close_b0 (rec : AM → Option (Unit × AM)) (v1 : Int32)  (M : AM) : Option (Unit × AM) :=
  if (gI M 105 19) ≤ 0 then some ((), M) else ald 160 M 112 ((gI M 105 19) - 1) (fun x1 => if x1 = 20 then some ((), M) else ald 160 M 112 ((gI M 105 19) - 1) (fun x2 => bnd (f_Mo_tight x2 M) (fun r3 M4 => if r3 < v1 then some ((), M4) else wI M4 105 19 ((gI M4 105 19) - 1) (fun M5 => ald 160 M5 112 (gI M5 105 19) (fun x6 => if x6 = 21 then bnd (f_Mo_add 2 0 M5) (fun r10 M11 => wI M11 105 23 ((gI M11 105 23) - 1) (fun M12 => rec  M12)) else ald 160 M5 112 (gI M5 105 19) (fun x7 => bnd (f_Mo_add 3 x7 M5) (fun r8 M9 => rec  M9)))))))
def f_Mo_close_l0 (v1 : Int32) : Nat → AM → Option (Unit × AM)
  | 0, _ => none
  | n + 1, M => f_Mo_close_b0 (f_Mo_close_l0 v1 n) v1  M
set_option maxRecDepth 20000 in
theorem t_Mo_close_b0 {G : GT} {d : Nat} {v1 : Int32}  {M : AM} {Q : AM → Option Value → Prop} {yo : Unit} {Mo : AM} {rec : AM → Option (Unit × AM)} (hrec : ∀  (M : AM), WT M → rec  M = some (yo, Mo) → PW G (d + 1) 238 0 [.ref 105, .int v1] [] M 0 0 Q) (k1 : WT Mo → PW G (d + 1) 238 101 [ux, ux] [] Mo 0 0 Q) (hW : WT M)   (hf : f_Mo_close_b0 rec v1  M = some (yo, Mo)) : PW G (d + 1) 238 0 [.ref 105, .int v1] [] M 0 0 Q := by
  refine P_aload_n d_238_0 rfl ?_
  refine A_gI d_238_1 cn_238 fk_CordLoftModel_229 k_105 hW ?_
  refine A_if_le (tgt := 101) d_238_4 rfl hf (fun hf => ?_) (fun hf => ?_)
  · refine P_fgt [false, false] ?_
    cases hf
    exact k1 hW 
  · refine P_aload_n d_238_7 rfl ?_
    refine A_gF d_238_8 cn_238 fk_CordLoftModel_33 ft_13_15 k_105 hW ?_
    refine P_aload_n d_238_11 rfl ?_
    refine A_gI d_238_12 cn_238 fk_CordLoftModel_229 k_105 hW ?_
    refine A_iconst d_238_15 ic_1 ?_
    refine P_isub d_238_16 ?_
    refine A_iald d_238_17 k_112 l_112 hW hf (fun hf => ?_)
    refine P_bipush d_238_18 bi_20 ?_
    refine A_icmp_eq (tgt := 101) d_238_20 rfl hf (fun hf => ?_) (fun hf => ?_)
    · refine P_fgt [false, false] ?_
      cases hf
      exact k1 hW 
    · refine P_aload_n d_238_23 rfl ?_
      refine A_gF d_238_24 cn_238 fk_CordLoftModel_33 ft_13_15 k_105 hW ?_
      refine P_aload_n d_238_27 rfl ?_
      refine A_gI d_238_28 cn_238 fk_CordLoftModel_229 k_105 hW ?_
      refine A_iconst d_238_31 ic_1 ?_
      refine P_isub d_238_32 ?_
      refine A_iald d_238_33 k_112 l_112 hW hf (fun hf => ?_)
      refine A_S1 d_238_34 sk_238_232 ml_230 rfl rfl hf (fun r3 M4 hc hf => t_Mo_tight hW  hc (fun hW => ?_))
      refine P_iload_n d_238_37 rfl ?_
      refine A_icmp_lt (tgt := 101) d_238_38 rfl hf (fun hf => ?_) (fun hf => ?_)
      · refine P_fgt [false, false] ?_
        cases hf
        exact k1 hW 
      · refine P_aload_n d_238_41 rfl ?_
        refine P_dup d_238_42 rfl ?_
        refine A_gI d_238_43 cn_238 fk_CordLoftModel_229 k_105 hW ?_
        refine A_iconst d_238_46 ic_1 ?_
        refine P_isub d_238_47 ?_
        refine A_pI d_238_48 cn_238 fp_CordLoftModel_229 k_105 hW hf (fun hW hf => ?_)
        refine P_aload_n d_238_51 rfl ?_
        refine A_gF d_238_52 cn_238 fk_CordLoftModel_33 ft_13_15 k_105 hW ?_
        refine P_aload_n d_238_55 rfl ?_
        refine A_gI d_238_56 cn_238 fk_CordLoftModel_229 k_105 hW ?_
        refine A_iald d_238_59 k_112 l_112 hW hf (fun hf => ?_)
        refine P_bipush d_238_60 bi_21 ?_
        refine A_icmp_ne (tgt := 84) d_238_62 rfl hf (fun hf => ?_) (fun hf => ?_)
        · refine P_aload_n d_238_84 rfl ?_
          refine A_iconst d_238_85 ic_3 ?_
          refine P_aload_n d_238_86 rfl ?_
          refine A_gF d_238_87 cn_238 fk_CordLoftModel_33 ft_13_15 k_105 hW ?_
          refine P_aload_n d_238_90 rfl ?_
          refine A_gI d_238_91 cn_238 fk_CordLoftModel_229 k_105 hW ?_
          refine A_iald d_238_94 k_112 l_112 hW hf (fun hf => ?_)
          refine A_V2 d_238_95 vk_238_235 ml_235 rfl k_105 hW rfl hf (fun r8 M9 hc hf => t_Mo_add hW  hc (fun hW => ?_))
          refine P_goto (tgt := 0) d_238_98 rfl ?_
          exact hrec  _ hW  hf
        · refine P_aload_n d_238_65 rfl ?_
          refine A_iconst d_238_66 ic_2 ?_
          refine A_iconst d_238_67 ic_0 ?_
          refine A_V2 d_238_68 vk_238_235 ml_235 rfl k_105 hW rfl hf (fun r10 M11 hc hf => t_Mo_add hW  hc (fun hW => ?_))
          refine P_aload_n d_238_71 rfl ?_
          refine P_dup d_238_72 rfl ?_
          refine A_gI d_238_73 cn_238 fk_CordLoftModel_239 k_105 hW ?_
          refine A_iconst d_238_76 ic_1 ?_
          refine P_isub d_238_77 ?_
          refine A_pI d_238_78 cn_238 fp_CordLoftModel_239 k_105 hW hf (fun hW hf => ?_)
          refine P_goto (tgt := 0) d_238_81 rfl ?_
          exact hrec  _ hW  hf
theorem t_Mo_close_l0 {G : GT} {d : Nat} {v1 : Int32} {Q : AM → Option Value → Prop} {yo : Unit} {Mo : AM} (k1 : WT Mo → PW G (d + 1) 238 101 [ux, ux] [] Mo 0 0 Q)  : ∀ (z : Nat)  (M : AM), WT M → f_Mo_close_l0 v1 z  M = some (yo, Mo) → PW G (d + 1) 238 0 [.ref 105, .int v1] [] M 0 0 Q := by
  intro z
  induction z with
  | zero => intro  M hW hf; cases hf
  | succ z ih => intro  M hW hf; exact t_Mo_close_b0 (fun  M hW hf => ih  M hW hf) k1 hW   hf
def f_Mo_close (a1 : Int32) (M : AM) : Option (Unit × AM) :=
  bnd (f_Mo_close_l0 a1 fu  M) (fun y1 M2 => some ((), M2))
set_option maxRecDepth 20000 in
theorem t_Mo_close {G : GT} {d : Nat} {a1 : Int32} {M : AM} {Q : AM → Option Value → Prop} {r : Unit} {M' : AM} (hW : WT M)  (hf : f_Mo_close a1 M = some (r, M')) (k : WT M' → Q M' none)  : Cal G (d + 1) 238 [.ref 105, .int a1] M Q := by
  refine A_enter ml_238 rfl ?_
  obtain ⟨y1, M2, hl, hf⟩ := bnd_some hf
  refine t_Mo_close_l0 (fun hW => ?_)  fu  _ hW  hl
  exact A_ret d_238_101 mr_238 hW hf k
def f_Mo_hasRelation_b7 (rec : Int32 → AM → Option (Int32 × AM))  (v1 : Int32) (M : AM) : Option (Int32 × AM) :=
  if v1 < 0 then some (v1, M) else ald 160 M 112 v1 (fun x1 => if x1 = 20 then some (v1, M) else ald 160 M 112 v1 (fun x2 => bnd (f_Mo_tight x2 M) (fun r3 M4 => if r3 ≤ 4 then some (v1, M4) else rec (v1 + (-1)) M4)))
def f_Mo_hasRelation_l7  : Nat → Int32 → AM → Option (Int32 × AM)
  | 0, _, _ => none
  | n + 1, v1, M => f_Mo_hasRelation_b7 (f_Mo_hasRelation_l7  n)  v1 M
set_option maxRecDepth 20000 in
theorem t_Mo_hasRelation_b7 {G : GT} {d : Nat}  {v1 : Int32} {M : AM} {Q : AM → Option Value → Prop} {yo : Int32} {Mo : AM} {rec : Int32 → AM → Option (Int32 × AM)} (hrec : ∀ (v1 : Int32) (M : AM), WT M → rec v1 M = some (yo, Mo) → PW G (d + 1) 239 7 [.ref 105, .int v1] [] M 0 0 Q) (k1 : WT Mo → PW G (d + 1) 239 41 [.ref 105, .int yo] [] Mo 0 0 Q) (hW : WT M)   (hf : f_Mo_hasRelation_b7 rec  v1 M = some (yo, Mo)) : PW G (d + 1) 239 7 [.ref 105, .int v1] [] M 0 0 Q := by
  refine P_iload_n d_239_7 rfl ?_
  refine A_if_lt (tgt := 41) d_239_8 rfl hf (fun hf => ?_) (fun hf => ?_)
  · cases hf
    exact k1 hW 
  · refine P_aload_n d_239_11 rfl ?_
    refine A_gF d_239_12 cn_239 fk_CordLoftModel_33 ft_13_15 k_105 hW ?_
    refine P_iload_n d_239_15 rfl ?_
    refine A_iald d_239_16 k_112 l_112 hW hf (fun hf => ?_)
    refine P_bipush d_239_17 bi_20 ?_
    refine A_icmp_eq (tgt := 41) d_239_19 rfl hf (fun hf => ?_) (fun hf => ?_)
    · cases hf
      exact k1 hW 
    · refine P_aload_n d_239_22 rfl ?_
      refine A_gF d_239_23 cn_239 fk_CordLoftModel_33 ft_13_15 k_105 hW ?_
      refine P_iload_n d_239_26 rfl ?_
      refine A_iald d_239_27 k_112 l_112 hW hf (fun hf => ?_)
      refine A_S1 d_239_28 sk_239_232 ml_230 rfl rfl hf (fun r3 M4 hc hf => t_Mo_tight hW  hc (fun hW => ?_))
      refine A_iconst d_239_31 ic_4 ?_
      refine A_icmp_le (tgt := 41) d_239_32 rfl hf (fun hf => ?_) (fun hf => ?_)
      · cases hf
        exact k1 hW 
      · refine A_iinc d_239_35 ic_m1 rfl ml_239 rfl rfl ?_
        refine P_goto (tgt := 7) d_239_38 rfl ?_
        exact hrec _ _ hW  hf
theorem t_Mo_hasRelation_l7 {G : GT} {d : Nat}  {Q : AM → Option Value → Prop} {yo : Int32} {Mo : AM} (k1 : WT Mo → PW G (d + 1) 239 41 [.ref 105, .int yo] [] Mo 0 0 Q)  : ∀ (z : Nat) (v1 : Int32) (M : AM), WT M → f_Mo_hasRelation_l7  z v1 M = some (yo, Mo) → PW G (d + 1) 239 7 [.ref 105, .int v1] [] M 0 0 Q := by
  intro z
  induction z with
  | zero => intro v1 M hW hf; cases hf
  | succ z ih => intro v1 M hW hf; exact t_Mo_hasRelation_b7 (fun v1 M hW hf => ih v1 M hW hf) k1 hW   hf
def f_Mo_hasRelation  (M : AM) : Option (Int32 × AM) :=
  bnd (f_Mo_hasRelation_l7  fu ((gI M 105 19) - 1) M) (fun y1 M2 => if y1 < 0 then some (0, M2) else ald 160 M2 112 y1 (fun x3 => if x3 = 20 then some (0, M2) else ald 160 M2 112 y1 (fun x4 => bnd (f_Mo_tight x4 M2) (fun r5 M6 => if r5 = 4 then some (1, M6) else some (0, M6)))))
set_option maxRecDepth 20000 in
theorem t_Mo_hasRelation {G : GT} {d : Nat}  {M : AM} {Q : AM → Option Value → Prop} {r : Int32} {M' : AM} (hW : WT M)  (hf : f_Mo_hasRelation  M = some (r, M')) (k : WT M' → (r = 0 ∨ r = 1) → Q M' (some (.int r)))  : Cal G (d + 1) 239 [.ref 105] M Q := by
  refine A_enter ml_239 rfl ?_
  refine P_aload_n d_239_0 rfl ?_
  refine A_gI d_239_1 cn_239 fk_CordLoftModel_229 k_105 hW ?_
  refine A_iconst d_239_4 ic_1 ?_
  refine P_isub d_239_5 ?_
  refine A_istore_n d_239_6 ml_239 rfl rfl ?_
  obtain ⟨y1, M2, hl, hf⟩ := bnd_some hf
  refine t_Mo_hasRelation_l7 (fun hW => ?_)  fu _ _ hW  hl
  refine P_iload_n d_239_41 rfl ?_
  refine A_if_lt (tgt := 73) d_239_42 rfl hf (fun hf => ?_) (fun hf => ?_)
  · refine A_iconst d_239_73 ic_0 ?_
    exact A_zret d_239_74 mr_239 hW (Or.inl rfl) hf k
  · refine P_aload_n d_239_45 rfl ?_
    refine A_gF d_239_46 cn_239 fk_CordLoftModel_33 ft_13_15 k_105 hW ?_
    refine P_iload_n d_239_49 rfl ?_
    refine A_iald d_239_50 k_112 l_112 hW hf (fun hf => ?_)
    refine P_bipush d_239_51 bi_20 ?_
    refine A_icmp_eq (tgt := 73) d_239_53 rfl hf (fun hf => ?_) (fun hf => ?_)
    · refine A_iconst d_239_73 ic_0 ?_
      exact A_zret d_239_74 mr_239 hW (Or.inl rfl) hf k
    · refine P_aload_n d_239_56 rfl ?_
      refine A_gF d_239_57 cn_239 fk_CordLoftModel_33 ft_13_15 k_105 hW ?_
      refine P_iload_n d_239_60 rfl ?_
      refine A_iald d_239_61 k_112 l_112 hW hf (fun hf => ?_)
      refine A_S1 d_239_62 sk_239_232 ml_230 rfl rfl hf (fun r5 M6 hc hf => t_Mo_tight hW  hc (fun hW => ?_))
      refine A_iconst d_239_65 ic_4 ?_
      refine A_icmp_ne (tgt := 73) d_239_66 rfl hf (fun hf => ?_) (fun hf => ?_)
      · refine A_iconst d_239_73 ic_0 ?_
        exact A_zret d_239_74 mr_239 hW (Or.inl rfl) hf k
      · refine A_iconst d_239_69 ic_1 ?_
        refine P_goto (tgt := 74) d_239_70 rfl ?_
        exact A_zret d_239_74 mr_239 hW (Or.inr rfl) hf k
def f_Mo_formula_j181  (M : AM) : Option (Unit × AM) :=
  if (gI M 105 2) = 0 then bnd (f_Mo_close 0 M) (fun r1 M2 => some ((), M2)) else some ((), M)
set_option maxRecDepth 20000 in
theorem t_Mo_formula_j181 {G : GT} {d : Nat}  {M : AM} {Q : AM → Option Value → Prop} {r : Unit} {M' : AM} (k : WT M' → Q M' none) (hW : WT M)  (hf : f_Mo_formula_j181  M = some (r, M')) : PW G (d + 4) 227 181 [.ref 105, ux, ux] [] M 0 0 Q := by
  refine P_aload_n d_227_181 rfl ?_
  refine A_gI d_227_182 cn_227 fk_CordLoftModel_152 k_105 hW ?_
  refine A_if_ne (tgt := 193) d_227_185 rfl hf (fun hf => ?_) (fun hf => ?_)
  · exact A_ret d_227_193 mr_227 hW hf k
  · refine P_aload_n d_227_188 rfl ?_
    refine A_iconst d_227_189 ic_0 ?_
    refine A_V1 d_227_190 vk_227_277 ml_238 rfl k_105 hW rfl hf (fun r1 M2 hc hf => t_Mo_close hW  hc (fun hW => ?_))
    exact A_ret d_227_193 mr_227 hW hf k
def f_Mo_formula_j118 (rec : Int32 → AM → Option (Unit × AM)) (v1 : Int32) (v2 : Int32) (M : AM) : Option (Unit × AM) :=
  bnd (f_Mo_tight v2 M) (fun r1 M2 => bnd (f_Mo_close r1 M2) (fun r3 M4 => ast 160 M4 112 (gI M4 105 19) v2 (fun M5 => wI M5 105 19 ((gI M5 105 19) + 1) (fun M6 => bnd (f_Mo_token  M6) (fun r7 M8 => bnd (f_Mo_unit  M8) (fun r9 M10 => rec v1 M10))))))
set_option maxRecDepth 20000 in
theorem t_Mo_formula_j118 {G : GT} {d : Nat} {v1 : Int32} {v2 : Int32} {M : AM} {Q : AM → Option Value → Prop} {yo : Unit} {Mo : AM} {rec : Int32 → AM → Option (Unit × AM)} (hrec : ∀ (v1 : Int32) (M : AM), WT M → rec v1 M = some (yo, Mo) → PW G (d + 4) 227 35 [.ref 105, .int v1, ux] [] M 0 0 Q) (k1 : WT Mo → PW G (d + 4) 227 162 [.ref 105, ux, ux] [] Mo 0 0 Q) (hW : WT M)  (hf : f_Mo_formula_j118 rec v1 v2 M = some (yo, Mo)) : PW G (d + 4) 227 118 [.ref 105, .int v1, .int v2] [] M 0 0 Q := by
  refine P_aload_n d_227_118 rfl ?_
  refine P_iload_n d_227_119 rfl ?_
  refine A_S1 d_227_120 sk_227_232 ml_230 rfl rfl hf (fun r1 M2 hc hf => t_Mo_tight hW  hc (fun hW => ?_))
  refine A_V1 d_227_123 vk_227_277 ml_238 rfl k_105 hW rfl hf (fun r3 M4 hc hf => t_Mo_close hW  hc (fun hW => ?_))
  refine P_aload_n d_227_126 rfl ?_
  refine A_gF d_227_127 cn_227 fk_CordLoftModel_33 ft_13_15 k_105 hW ?_
  refine P_aload_n d_227_130 rfl ?_
  refine A_gI d_227_131 cn_227 fk_CordLoftModel_229 k_105 hW ?_
  refine P_iload_n d_227_134 rfl ?_
  refine A_iast d_227_135 k_112 l_112 hW hf (fun hW hf => ?_)
  refine P_aload_n d_227_136 rfl ?_
  refine P_dup d_227_137 rfl ?_
  refine A_gI d_227_138 cn_227 fk_CordLoftModel_229 k_105 hW ?_
  refine A_iconst d_227_141 ic_1 ?_
  refine P_iadd d_227_142 ?_
  refine A_pI d_227_143 cn_227 fp_CordLoftModel_229 k_105 hW hf (fun hW hf => ?_)
  refine P_aload_n d_227_146 rfl ?_
  refine A_V0 d_227_147 vk_227_202 ml_205 rfl k_105 hW rfl hf (fun r7 M8 hc hf => t_Mo_token hW  hc (fun hW => ?_))
  refine P_aload_n d_227_150 rfl ?_
  refine A_V0 d_227_151 vk_227_268 ml_228 rfl k_105 hW rfl hf (fun r9 M10 hc hf => t_Mo_unit hW  hc (fun hW => ?_))
  refine P_goto (tgt := 159) d_227_154 rfl ?_
  refine P_goto (tgt := 35) d_227_159 rfl ?_
  refine P_fgt [true, true, false] ?_
  exact hrec _ _ hW  hf
def f_Mo_formula_j99 (rec : Int32 → AM → Option (Unit × AM)) (v1 : Int32) (v2 : Int32) (M : AM) : Option (Unit × AM) :=
  if v2 = 0 then rec 0 M else bnd (f_Mo_tight v2 M) (fun r1 M2 => if r1 = 4 then bnd (f_Mo_hasRelation  M2) (fun r3 M4 => if r3 = 0 then f_Mo_formula_j118 rec v1 v2 M4 else rec 0 M4) else f_Mo_formula_j118 rec v1 v2 M2)
set_option maxRecDepth 20000 in
theorem t_Mo_formula_j99 {G : GT} {d : Nat} {v1 : Int32} {v2 : Int32} {M : AM} {Q : AM → Option Value → Prop} {yo : Unit} {Mo : AM} {rec : Int32 → AM → Option (Unit × AM)} (hrec : ∀ (v1 : Int32) (M : AM), WT M → rec v1 M = some (yo, Mo) → PW G (d + 4) 227 35 [.ref 105, .int v1, ux] [] M 0 0 Q) (k1 : WT Mo → PW G (d + 4) 227 162 [.ref 105, ux, ux] [] Mo 0 0 Q) (hW : WT M)  (hf : f_Mo_formula_j99 rec v1 v2 M = some (yo, Mo)) : PW G (d + 4) 227 99 [.ref 105, .int v1, .int v2] [] M 0 0 Q := by
  refine P_iload_n d_227_99 rfl ?_
  refine A_if_eq (tgt := 157) d_227_100 rfl hf (fun hf => ?_) (fun hf => ?_)
  · refine A_iconst d_227_157 ic_0 ?_
    refine A_istore_n d_227_158 ml_227 rfl rfl ?_
    refine P_goto (tgt := 35) d_227_159 rfl ?_
    refine P_fgt [true, true, false] ?_
    exact hrec _ _ hW  hf
  · refine P_iload_n d_227_103 rfl ?_
    refine A_S1 d_227_104 sk_227_232 ml_230 rfl rfl hf (fun r1 M2 hc hf => t_Mo_tight hW  hc (fun hW => ?_))
    refine A_iconst d_227_107 ic_4 ?_
    refine A_icmp_ne (tgt := 118) d_227_108 rfl hf (fun hf => ?_) (fun hf => ?_)
    · exact t_Mo_formula_j118 hrec k1 hW  hf
    · refine P_aload_n d_227_111 rfl ?_
      refine A_V0 d_227_112 vk_227_280 ml_239 rfl k_105 hW rfl hf (fun r3 M4 hc hf => t_Mo_hasRelation hW  hc (fun hW hb4 => ?_))
      refine A_if_ne (tgt := 157) d_227_115 rfl hf (fun hf => ?_) (fun hf => ?_)
      · refine A_iconst d_227_157 ic_0 ?_
        refine A_istore_n d_227_158 ml_227 rfl rfl ?_
        refine P_goto (tgt := 35) d_227_159 rfl ?_
        refine P_fgt [true, true, false] ?_
        exact hrec _ _ hW  hf
      · exact t_Mo_formula_j118 hrec k1 hW  hf
def f_Mo_formula_b35 (rec : Int32 → AM → Option (Unit × AM))  (v1 : Int32) (M : AM) : Option (Unit × AM) :=
  if v1 = 0 then some ((), M) else if (gI M 105 2) = 0 then bnd (f_Mo_sign  M) (fun r1 M2 => if (gI M2 105 6) = 41 then bnd (f_Mo_hasBracket  M2) (fun r3 M4 => if r3 = 0 then f_Mo_formula_j99 rec v1 r1 M4 else bnd (f_Mo_close 0 M4) (fun r5 M6 => wI M6 105 19 ((gI M6 105 19) - 1) (fun M7 => wI M7 105 23 ((gI M7 105 23) - 1) (fun M8 => bnd (f_Mo_token  M8) (fun r9 M10 => rec v1 M10))))) else f_Mo_formula_j99 rec v1 r1 M2) else some ((), M)
def f_Mo_formula_l35  : Nat → Int32 → AM → Option (Unit × AM)
  | 0, _, _ => none
  | n + 1, v1, M => f_Mo_formula_b35 (f_Mo_formula_l35  n)  v1 M
set_option maxRecDepth 20000 in
theorem t_Mo_formula_b35 {G : GT} {d : Nat}  {v1 : Int32} {M : AM} {Q : AM → Option Value → Prop} {yo : Unit} {Mo : AM} {rec : Int32 → AM → Option (Unit × AM)} (hrec : ∀ (v1 : Int32) (M : AM), WT M → rec v1 M = some (yo, Mo) → PW G (d + 4) 227 35 [.ref 105, .int v1, ux] [] M 0 0 Q) (k1 : WT Mo → PW G (d + 4) 227 162 [.ref 105, ux, ux] [] Mo 0 0 Q) (hW : WT M)   (hf : f_Mo_formula_b35 rec  v1 M = some (yo, Mo)) : PW G (d + 4) 227 35 [.ref 105, .int v1, ux] [] M 0 0 Q := by
  refine P_iload_n d_227_35 rfl ?_
  refine A_if_eq (tgt := 162) d_227_36 rfl hf (fun hf => ?_) (fun hf => ?_)
  · refine P_fgt [true, false, false] ?_
    cases hf
    exact k1 hW 
  · refine P_aload_n d_227_39 rfl ?_
    refine A_gI d_227_40 cn_227 fk_CordLoftModel_152 k_105 hW ?_
    refine A_if_ne (tgt := 162) d_227_43 rfl hf (fun hf => ?_) (fun hf => ?_)
    · refine P_fgt [true, false, false] ?_
      cases hf
      exact k1 hW 
    · refine P_aload_n d_227_46 rfl ?_
      refine A_V0 d_227_47 vk_227_271 ml_236 rfl k_105 hW rfl hf (fun r1 M2 hc hf => t_Mo_sign hW  hc (fun hW => ?_))
      refine A_istore_n d_227_50 ml_227 rfl rfl ?_
      refine P_aload_n d_227_51 rfl ?_
      refine A_gI d_227_52 cn_227 fk_CordLoftModel_139 k_105 hW ?_
      refine P_bipush d_227_55 bi_41 ?_
      refine A_icmp_ne (tgt := 99) d_227_57 rfl hf (fun hf => ?_) (fun hf => ?_)
      · exact t_Mo_formula_j99 hrec k1 hW  hf
      · refine P_aload_n d_227_60 rfl ?_
        refine A_V0 d_227_61 vk_227_274 ml_237 rfl k_105 hW rfl hf (fun r3 M4 hc hf => t_Mo_hasBracket hW  hc (fun hW hb4 => ?_))
        refine A_if_eq (tgt := 99) d_227_64 rfl hf (fun hf => ?_) (fun hf => ?_)
        · exact t_Mo_formula_j99 hrec k1 hW  hf
        · refine P_aload_n d_227_67 rfl ?_
          refine A_iconst d_227_68 ic_0 ?_
          refine A_V1 d_227_69 vk_227_277 ml_238 rfl k_105 hW rfl hf (fun r5 M6 hc hf => t_Mo_close hW  hc (fun hW => ?_))
          refine P_aload_n d_227_72 rfl ?_
          refine P_dup d_227_73 rfl ?_
          refine A_gI d_227_74 cn_227 fk_CordLoftModel_229 k_105 hW ?_
          refine A_iconst d_227_77 ic_1 ?_
          refine P_isub d_227_78 ?_
          refine A_pI d_227_79 cn_227 fp_CordLoftModel_229 k_105 hW hf (fun hW hf => ?_)
          refine P_aload_n d_227_82 rfl ?_
          refine P_dup d_227_83 rfl ?_
          refine A_gI d_227_84 cn_227 fk_CordLoftModel_239 k_105 hW ?_
          refine A_iconst d_227_87 ic_1 ?_
          refine P_isub d_227_88 ?_
          refine A_pI d_227_89 cn_227 fp_CordLoftModel_239 k_105 hW hf (fun hW hf => ?_)
          refine P_aload_n d_227_92 rfl ?_
          refine A_V0 d_227_93 vk_227_202 ml_205 rfl k_105 hW rfl hf (fun r9 M10 hc hf => t_Mo_token hW  hc (fun hW => ?_))
          refine P_goto (tgt := 159) d_227_96 rfl ?_
          refine P_goto (tgt := 35) d_227_159 rfl ?_
          refine P_fgt [true, true, false] ?_
          exact hrec _ _ hW  hf
theorem t_Mo_formula_l35 {G : GT} {d : Nat}  {Q : AM → Option Value → Prop} {yo : Unit} {Mo : AM} (k1 : WT Mo → PW G (d + 4) 227 162 [.ref 105, ux, ux] [] Mo 0 0 Q)  : ∀ (z : Nat) (v1 : Int32) (M : AM), WT M → f_Mo_formula_l35  z v1 M = some (yo, Mo) → PW G (d + 4) 227 35 [.ref 105, .int v1, ux] [] M 0 0 Q := by
  intro z
  induction z with
  | zero => intro v1 M hW hf; cases hf
  | succ z ih => intro v1 M hW hf; exact t_Mo_formula_b35 (fun v1 M hW hf => ih v1 M hW hf) k1 hW   hf
def f_Mo_formula  (M : AM) : Option (Unit × AM) :=
  bnd (f_Mo_token  M) (fun r1 M2 => wI M2 105 24 1 (fun M3 => wI M3 105 17 0 (fun M4 => wI M4 105 19 0 (fun M5 => wI M5 105 23 0 (fun M6 => wI M6 105 22 0 (fun M7 => bnd (f_Mo_unit  M7) (fun r8 M9 => bnd (f_Mo_formula_l35  fu 1 M9) (fun y10 M11 => if (gI M11 105 2) = 0 then bnd (f_Mo_hasBracket  M11) (fun r12 M13 => if r12 = 0 then f_Mo_formula_j181  M13 else bnd (f_Mo_wrong 2 M13) (fun r14 M15 => f_Mo_formula_j181  M15)) else f_Mo_formula_j181  M11))))))))
set_option maxRecDepth 20000 in
theorem t_Mo_formula {G : GT} {d : Nat}  {M : AM} {Q : AM → Option Value → Prop} {r : Unit} {M' : AM} (hW : WT M)  (hf : f_Mo_formula  M = some (r, M')) (k : WT M' → Q M' none)  : Cal G (d + 4) 227 [.ref 105] M Q := by
  refine A_enter ml_227 rfl ?_
  refine P_aload_n d_227_0 rfl ?_
  refine A_V0 d_227_1 vk_227_202 ml_205 rfl k_105 hW rfl hf (fun r1 M2 hc hf => t_Mo_token hW  hc (fun hW => ?_))
  refine P_aload_n d_227_4 rfl ?_
  refine A_iconst d_227_5 ic_1 ?_
  refine A_pZ d_227_6 cn_227 fp_CordLoftModel_264 k_105 hW (Or.inr rfl) hf (fun hW hf => ?_)
  refine P_aload_n d_227_9 rfl ?_
  refine A_iconst d_227_10 ic_0 ?_
  refine A_pI d_227_11 cn_227 fp_CordLoftModel_226 k_105 hW hf (fun hW hf => ?_)
  refine P_aload_n d_227_14 rfl ?_
  refine A_iconst d_227_15 ic_0 ?_
  refine A_pI d_227_16 cn_227 fp_CordLoftModel_229 k_105 hW hf (fun hW hf => ?_)
  refine P_aload_n d_227_19 rfl ?_
  refine A_iconst d_227_20 ic_0 ?_
  refine A_pI d_227_21 cn_227 fp_CordLoftModel_239 k_105 hW hf (fun hW hf => ?_)
  refine P_aload_n d_227_24 rfl ?_
  refine A_iconst d_227_25 ic_0 ?_
  refine A_pI d_227_26 cn_227 fp_CordLoftModel_245 k_105 hW hf (fun hW hf => ?_)
  refine P_aload_n d_227_29 rfl ?_
  refine A_V0 d_227_30 vk_227_268 ml_228 rfl k_105 hW rfl hf (fun r8 M9 hc hf => t_Mo_unit hW  hc (fun hW => ?_))
  refine A_iconst d_227_33 ic_1 ?_
  refine A_istore_n d_227_34 ml_227 rfl rfl ?_
  obtain ⟨y10, M11, hl, hf⟩ := bnd_some hf
  refine t_Mo_formula_l35 (fun hW => ?_)  fu _ _ hW  hl
  refine P_aload_n d_227_162 rfl ?_
  refine A_gI d_227_163 cn_227 fk_CordLoftModel_152 k_105 hW ?_
  refine A_if_ne (tgt := 181) d_227_166 rfl hf (fun hf => ?_) (fun hf => ?_)
  · exact t_Mo_formula_j181 k hW  hf
  · refine P_aload_n d_227_169 rfl ?_
    refine A_V0 d_227_170 vk_227_274 ml_237 rfl k_105 hW rfl hf (fun r12 M13 hc hf => t_Mo_hasBracket hW  hc (fun hW hb13 => ?_))
    refine A_if_eq (tgt := 181) d_227_173 rfl hf (fun hf => ?_) (fun hf => ?_)
    · exact t_Mo_formula_j181 k hW  hf
    · refine P_aload_n d_227_176 rfl ?_
      refine A_iconst d_227_177 ic_2 ?_
      refine A_V1 d_227_178 vk_227_199 ml_216 rfl k_105 hW rfl hf (fun r14 M15 hc hf => t_Mo_wrong hW  hc (fun hW => ?_))
      exact t_Mo_formula_j181 k hW  hf
def f_Mo_readLine_j237  (M : AM) : Option (Unit × AM) :=
  if (gI M 105 2) = 0 then bnd (f_Mo_token  M) (fun r1 M2 => some ((), M2)) else some ((), M)
set_option maxRecDepth 20000 in
theorem t_Mo_readLine_j237 {G : GT} {d : Nat}  {M : AM} {Q : AM → Option Value → Prop} {r : Unit} {M' : AM} (k : WT M' → Q M' none) (hW : WT M)  (hf : f_Mo_readLine_j237  M = some (r, M')) : PW G (d + 6) 210 237 [.ref 105] [] M 0 0 Q := by
  refine P_aload_n d_210_237 rfl ?_
  refine A_gI d_210_238 cn_210 fk_CordLoftModel_152 k_105 hW ?_
  refine A_if_ne (tgt := 248) d_210_241 rfl hf (fun hf => ?_) (fun hf => ?_)
  · exact A_ret d_210_248 mr_210 hW hf k
  · refine P_aload_n d_210_244 rfl ?_
    refine A_V0 d_210_245 vk_210_202 ml_205 rfl k_105 hW rfl hf (fun r1 M2 hc hf => t_Mo_token hW  hc (fun hW => ?_))
    exact A_ret d_210_248 mr_210 hW hf k
def f_Mo_readLine_j216  (M : AM) : Option (Unit × AM) :=
  if (gI M 105 2) = 0 then if (gI M 105 6) = 59 then f_Mo_readLine_j237  M else bnd (f_Mo_wrong 2 M) (fun r1 M2 => f_Mo_readLine_j237  M2) else f_Mo_readLine_j237  M
set_option maxRecDepth 20000 in
theorem t_Mo_readLine_j216 {G : GT} {d : Nat}  {M : AM} {Q : AM → Option Value → Prop} {r : Unit} {M' : AM} (k : WT M' → Q M' none) (hW : WT M)  (hf : f_Mo_readLine_j216  M = some (r, M')) : PW G (d + 6) 210 216 [.ref 105] [] M 0 0 Q := by
  refine P_aload_n d_210_216 rfl ?_
  refine A_gI d_210_217 cn_210 fk_CordLoftModel_152 k_105 hW ?_
  refine A_if_ne (tgt := 237) d_210_220 rfl hf (fun hf => ?_) (fun hf => ?_)
  · exact t_Mo_readLine_j237 k hW  hf
  · refine P_aload_n d_210_223 rfl ?_
    refine A_gI d_210_224 cn_210 fk_CordLoftModel_139 k_105 hW ?_
    refine P_bipush d_210_227 bi_59 ?_
    refine A_icmp_eq (tgt := 237) d_210_229 rfl hf (fun hf => ?_) (fun hf => ?_)
    · exact t_Mo_readLine_j237 k hW  hf
    · refine P_aload_n d_210_232 rfl ?_
      refine A_iconst d_210_233 ic_2 ?_
      refine A_V1 d_210_234 vk_210_199 ml_216 rfl k_105 hW rfl hf (fun r1 M2 hc hf => t_Mo_wrong hW  hc (fun hW => ?_))
      exact t_Mo_readLine_j237 k hW  hf
def f_Mo_readLine_j211  (M : AM) : Option (Unit × AM) :=
  bnd (f_Mo_wrong 2 M) (fun r1 M2 => f_Mo_readLine_j216  M2)
set_option maxRecDepth 20000 in
theorem t_Mo_readLine_j211 {G : GT} {d : Nat}  {M : AM} {Q : AM → Option Value → Prop} {r : Unit} {M' : AM} (k : WT M' → Q M' none) (hW : WT M)  (hf : f_Mo_readLine_j211  M = some (r, M')) : PW G (d + 6) 210 211 [.ref 105] [] M 0 0 Q := by
  refine P_aload_n d_210_211 rfl ?_
  refine A_iconst d_210_212 ic_2 ?_
  refine A_V1 d_210_213 vk_210_199 ml_216 rfl k_105 hW rfl hf (fun r1 M2 hc hf => t_Mo_wrong hW  hc (fun hW => ?_))
  exact t_Mo_readLine_j216 k hW  hf
def f_Mo_readLine_j171  (M : AM) : Option (Unit × AM) :=
  bnd (f_Mo_isWord 1685217655 M) (fun r1 M2 => if r1 = 0 then f_Mo_readLine_j211  M2 else if (gI M2 105 49) = 0 then wI M2 105 49 1 (fun M3 => bnd (f_Mo_told 1685217655 0 999 M3) (fun r4 M5 => wI M5 105 40 r4 (fun M6 => f_Mo_readLine_j216  M6))) else f_Mo_readLine_j211  M2)
set_option maxRecDepth 20000 in
theorem t_Mo_readLine_j171 {G : GT} {d : Nat}  {M : AM} {Q : AM → Option Value → Prop} {r : Unit} {M' : AM} (k : WT M' → Q M' none) (hW : WT M)  (hf : f_Mo_readLine_j171  M = some (r, M')) : PW G (d + 6) 210 171 [.ref 105] [] M 0 0 Q := by
  refine P_aload_n d_210_171 rfl ?_
  refine A_ldc2 d_210_172 cn_210 cl_CordLoftModel_175 ?_
  refine A_V1 d_210_175 vk_210_195 ml_211 rfl k_105 hW rfl hf (fun r1 M2 hc hf => t_Mo_isWord hW  hc (fun hW hb2 => ?_))
  refine A_if_eq (tgt := 211) d_210_178 rfl hf (fun hf => ?_) (fun hf => ?_)
  · exact t_Mo_readLine_j211 k hW  hf
  · refine P_aload_n d_210_181 rfl ?_
    refine A_gZ d_210_182 cn_210 fk_CordLoftModel_357 k_105 hW ?_
    refine A_if_ne (tgt := 211) d_210_185 rfl hf (fun hf => ?_) (fun hf => ?_)
    · exact t_Mo_readLine_j211 k hW  hf
    · refine P_aload_n d_210_188 rfl ?_
      refine A_iconst d_210_189 ic_1 ?_
      refine A_pZ d_210_190 cn_210 fp_CordLoftModel_357 k_105 hW (Or.inr rfl) hf (fun hW hf => ?_)
      refine P_aload_n d_210_193 rfl ?_
      refine P_aload_n d_210_194 rfl ?_
      refine A_ldc2 d_210_195 cn_210 cl_CordLoftModel_175 ?_
      refine A_iconst d_210_198 ic_0 ?_
      refine P_sipush d_210_199 si_999 ?_
      refine A_V3 d_210_202 vk_210_213 ml_219 rfl k_105 hW rfl hf (fun r4 M5 hc hf => t_Mo_told hW  hc (fun hW => ?_))
      refine A_pI d_210_205 cn_210 fp_CordLoftModel_360 k_105 hW hf (fun hW hf => ?_)
      refine P_goto (tgt := 216) d_210_208 rfl ?_
      exact t_Mo_readLine_j216 k hW  hf
def f_Mo_readLine_j132  (M : AM) : Option (Unit × AM) :=
  bnd (f_Mo_isWord 444352132211 M) (fun r1 M2 => if r1 = 0 then f_Mo_readLine_j171  M2 else if (gI M2 105 48) = 0 then wI M2 105 48 1 (fun M3 => bnd (f_Mo_told 444352132211 0 100 M3) (fun r4 M5 => wI M5 105 39 r4 (fun M6 => f_Mo_readLine_j216  M6))) else f_Mo_readLine_j171  M2)
set_option maxRecDepth 20000 in
theorem t_Mo_readLine_j132 {G : GT} {d : Nat}  {M : AM} {Q : AM → Option Value → Prop} {r : Unit} {M' : AM} (k : WT M' → Q M' none) (hW : WT M)  (hf : f_Mo_readLine_j132  M = some (r, M')) : PW G (d + 6) 210 132 [.ref 105] [] M 0 0 Q := by
  refine P_aload_n d_210_132 rfl ?_
  refine A_ldc2 d_210_133 cn_210 cl_CordLoftModel_173 ?_
  refine A_V1 d_210_136 vk_210_195 ml_211 rfl k_105 hW rfl hf (fun r1 M2 hc hf => t_Mo_isWord hW  hc (fun hW hb2 => ?_))
  refine A_if_eq (tgt := 171) d_210_139 rfl hf (fun hf => ?_) (fun hf => ?_)
  · exact t_Mo_readLine_j171 k hW  hf
  · refine P_aload_n d_210_142 rfl ?_
    refine A_gZ d_210_143 cn_210 fk_CordLoftModel_351 k_105 hW ?_
    refine A_if_ne (tgt := 171) d_210_146 rfl hf (fun hf => ?_) (fun hf => ?_)
    · exact t_Mo_readLine_j171 k hW  hf
    · refine P_aload_n d_210_149 rfl ?_
      refine A_iconst d_210_150 ic_1 ?_
      refine A_pZ d_210_151 cn_210 fp_CordLoftModel_351 k_105 hW (Or.inr rfl) hf (fun hW hf => ?_)
      refine P_aload_n d_210_154 rfl ?_
      refine P_aload_n d_210_155 rfl ?_
      refine A_ldc2 d_210_156 cn_210 cl_CordLoftModel_173 ?_
      refine A_iconst d_210_159 ic_0 ?_
      refine P_bipush d_210_160 bi_100 ?_
      refine A_V3 d_210_162 vk_210_213 ml_219 rfl k_105 hW rfl hf (fun r4 M5 hc hf => t_Mo_told hW  hc (fun hW => ?_))
      refine A_pI d_210_165 cn_210 fp_CordLoftModel_354 k_105 hW hf (fun hW hf => ?_)
      refine P_goto (tgt := 216) d_210_168 rfl ?_
      exact t_Mo_readLine_j216 k hW  hf
def f_Mo_readLine_j93  (M : AM) : Option (Unit × AM) :=
  bnd (f_Mo_isWord 465557353332 M) (fun r1 M2 => if r1 = 0 then f_Mo_readLine_j132  M2 else if (gI M2 105 47) = 0 then wI M2 105 47 1 (fun M3 => bnd (f_Mo_told 465557353332 0 8 M3) (fun r4 M5 => wI M5 105 38 r4 (fun M6 => f_Mo_readLine_j216  M6))) else f_Mo_readLine_j132  M2)
set_option maxRecDepth 20000 in
theorem t_Mo_readLine_j93 {G : GT} {d : Nat}  {M : AM} {Q : AM → Option Value → Prop} {r : Unit} {M' : AM} (k : WT M' → Q M' none) (hW : WT M)  (hf : f_Mo_readLine_j93  M = some (r, M')) : PW G (d + 6) 210 93 [.ref 105] [] M 0 0 Q := by
  refine P_aload_n d_210_93 rfl ?_
  refine A_ldc2 d_210_94 cn_210 cl_CordLoftModel_171 ?_
  refine A_V1 d_210_97 vk_210_195 ml_211 rfl k_105 hW rfl hf (fun r1 M2 hc hf => t_Mo_isWord hW  hc (fun hW hb2 => ?_))
  refine A_if_eq (tgt := 132) d_210_100 rfl hf (fun hf => ?_) (fun hf => ?_)
  · exact t_Mo_readLine_j132 k hW  hf
  · refine P_aload_n d_210_103 rfl ?_
    refine A_gZ d_210_104 cn_210 fk_CordLoftModel_345 k_105 hW ?_
    refine A_if_ne (tgt := 132) d_210_107 rfl hf (fun hf => ?_) (fun hf => ?_)
    · exact t_Mo_readLine_j132 k hW  hf
    · refine P_aload_n d_210_110 rfl ?_
      refine A_iconst d_210_111 ic_1 ?_
      refine A_pZ d_210_112 cn_210 fp_CordLoftModel_345 k_105 hW (Or.inr rfl) hf (fun hW hf => ?_)
      refine P_aload_n d_210_115 rfl ?_
      refine P_aload_n d_210_116 rfl ?_
      refine A_ldc2 d_210_117 cn_210 cl_CordLoftModel_171 ?_
      refine A_iconst d_210_120 ic_0 ?_
      refine P_bipush d_210_121 bi_8 ?_
      refine A_V3 d_210_123 vk_210_213 ml_219 rfl k_105 hW rfl hf (fun r4 M5 hc hf => t_Mo_told hW  hc (fun hW => ?_))
      refine A_pI d_210_126 cn_210 fp_CordLoftModel_348 k_105 hW hf (fun hW hf => ?_)
      refine P_goto (tgt := 216) d_210_129 rfl ?_
      exact t_Mo_readLine_j216 k hW  hf
def f_Mo_readLine_j52  (M : AM) : Option (Unit × AM) :=
  bnd (f_Mo_isWord 1852143732 M) (fun r1 M2 => if r1 = 0 then bnd (f_Mo_isWord 1685418859 M2) (fun r3 M4 => if r3 = 0 then f_Mo_readLine_j93  M4 else if (gI M4 105 24) = 0 then bnd (f_Mo_formula  M4) (fun r5 M6 => f_Mo_readLine_j216  M6) else f_Mo_readLine_j93  M4) else bnd (f_Mo_readNext  M2) (fun r7 M8 => f_Mo_readLine_j216  M8))
set_option maxRecDepth 20000 in
theorem t_Mo_readLine_j52 {G : GT} {d : Nat}  {M : AM} {Q : AM → Option Value → Prop} {r : Unit} {M' : AM} (k : WT M' → Q M' none) (hW : WT M)  (hf : f_Mo_readLine_j52  M = some (r, M')) : PW G (d + 6) 210 52 [.ref 105] [] M 0 0 Q := by
  refine P_aload_n d_210_52 rfl ?_
  refine A_ldc2 d_210_53 cn_210 cl_CordLoftModel_167 ?_
  refine A_V1 d_210_56 vk_210_195 ml_211 rfl k_105 hW rfl hf (fun r1 M2 hc hf => t_Mo_isWord hW  hc (fun hW hb2 => ?_))
  refine A_if_eq (tgt := 69) d_210_59 rfl hf (fun hf => ?_) (fun hf => ?_)
  · refine P_aload_n d_210_69 rfl ?_
    refine A_ldc2 d_210_70 cn_210 cl_CordLoftModel_169 ?_
    refine A_V1 d_210_73 vk_210_195 ml_211 rfl k_105 hW rfl hf (fun r3 M4 hc hf => t_Mo_isWord hW  hc (fun hW hb4 => ?_))
    refine A_if_eq (tgt := 93) d_210_76 rfl hf (fun hf => ?_) (fun hf => ?_)
    · exact t_Mo_readLine_j93 k hW  hf
    · refine P_aload_n d_210_79 rfl ?_
      refine A_gZ d_210_80 cn_210 fk_CordLoftModel_264 k_105 hW ?_
      refine A_if_ne (tgt := 93) d_210_83 rfl hf (fun hf => ?_) (fun hf => ?_)
      · exact t_Mo_readLine_j93 k hW  hf
      · refine P_aload_n d_210_86 rfl ?_
        refine A_V0 d_210_87 vk_210_342 ml_227 rfl k_105 hW rfl hf (fun r5 M6 hc hf => t_Mo_formula hW  hc (fun hW => ?_))
        refine P_goto (tgt := 216) d_210_90 rfl ?_
        exact t_Mo_readLine_j216 k hW  hf
  · refine P_aload_n d_210_62 rfl ?_
    refine A_V0 d_210_63 vk_210_339 ml_226 rfl k_105 hW rfl hf (fun r7 M8 hc hf => t_Mo_readNext hW  hc (fun hW => ?_))
    refine P_goto (tgt := 216) d_210_66 rfl ?_
    exact t_Mo_readLine_j216 k hW  hf
def f_Mo_readLine_j26  (M : AM) : Option (Unit × AM) :=
  bnd (f_Mo_isWord 1668248164 M) (fun r1 M2 => if r1 = 0 then f_Mo_readLine_j52  M2 else if 8 ≤ (gI M2 105 36) then f_Mo_readLine_j52  M2 else bnd (f_Mo_readCord  M2) (fun r3 M4 => f_Mo_readLine_j216  M4))
set_option maxRecDepth 20000 in
theorem t_Mo_readLine_j26 {G : GT} {d : Nat}  {M : AM} {Q : AM → Option Value → Prop} {r : Unit} {M' : AM} (k : WT M' → Q M' none) (hW : WT M)  (hf : f_Mo_readLine_j26  M = some (r, M')) : PW G (d + 6) 210 26 [.ref 105] [] M 0 0 Q := by
  refine P_aload_n d_210_26 rfl ?_
  refine A_ldc2 d_210_27 cn_210 cl_CordLoftModel_161 ?_
  refine A_V1 d_210_30 vk_210_195 ml_211 rfl k_105 hW rfl hf (fun r1 M2 hc hf => t_Mo_isWord hW  hc (fun hW hb2 => ?_))
  refine A_if_eq (tgt := 52) d_210_33 rfl hf (fun hf => ?_) (fun hf => ?_)
  · exact t_Mo_readLine_j52 k hW  hf
  · refine P_aload_n d_210_36 rfl ?_
    refine A_gI d_210_37 cn_210 fk_CordLoftModel_323 k_105 hW ?_
    refine P_bipush d_210_40 bi_8 ?_
    refine A_icmp_ge (tgt := 52) d_210_42 rfl hf (fun hf => ?_) (fun hf => ?_)
    · exact t_Mo_readLine_j52 k hW  hf
    · refine P_aload_n d_210_45 rfl ?_
      refine A_V0 d_210_46 vk_210_336 ml_222 rfl k_105 hW rfl hf (fun r3 M4 hc hf => t_Mo_readCord hW  hc (fun hW => ?_))
      refine P_goto (tgt := 216) d_210_49 rfl ?_
      exact t_Mo_readLine_j216 k hW  hf
def f_Mo_readLine  (M : AM) : Option (Unit × AM) :=
  bnd (f_Mo_isWord 1818324336 M) (fun r1 M2 => if r1 = 0 then f_Mo_readLine_j26  M2 else if 8 ≤ (gI M2 105 35) then f_Mo_readLine_j26  M2 else bnd (f_Mo_readLamp  M2) (fun r3 M4 => f_Mo_readLine_j216  M4))
set_option maxRecDepth 20000 in
theorem t_Mo_readLine {G : GT} {d : Nat}  {M : AM} {Q : AM → Option Value → Prop} {r : Unit} {M' : AM} (hW : WT M)  (hf : f_Mo_readLine  M = some (r, M')) (k : WT M' → Q M' none)  : Cal G (d + 6) 210 [.ref 105] M Q := by
  refine A_enter ml_210 rfl ?_
  refine P_aload_n d_210_0 rfl ?_
  refine A_ldc2 d_210_1 cn_210 cl_CordLoftModel_155 ?_
  refine A_V1 d_210_4 vk_210_195 ml_211 rfl k_105 hW rfl hf (fun r1 M2 hc hf => t_Mo_isWord hW  hc (fun hW hb2 => ?_))
  refine A_if_eq (tgt := 26) d_210_7 rfl hf (fun hf => ?_) (fun hf => ?_)
  · exact t_Mo_readLine_j26 k hW  hf
  · refine P_aload_n d_210_10 rfl ?_
    refine A_gI d_210_11 cn_210 fk_CordLoftModel_223 k_105 hW ?_
    refine P_bipush d_210_14 bi_8 ?_
    refine A_icmp_ge (tgt := 26) d_210_16 rfl hf (fun hf => ?_) (fun hf => ?_)
    · exact t_Mo_readLine_j26 k hW  hf
    · refine P_aload_n d_210_19 rfl ?_
      refine A_V0 d_210_20 vk_210_333 ml_212 rfl k_105 hW rfl hf (fun r3 M4 hc hf => t_Mo_readLamp hW  hc (fun hW => ?_))
      refine P_goto (tgt := 216) d_210_23 rfl ?_
      exact t_Mo_readLine_j216 k hW  hf
def f_Mo_readAll_b87 (rec : AM → Option (Unit × AM))   (M : AM) : Option (Unit × AM) :=
  if (gI M 105 2) = 0 then if (gI M 105 6) = 0 then some ((), M) else bnd (f_Mo_readLine  M) (fun r1 M2 => rec  M2) else some ((), M)
def f_Mo_readAll_l87  : Nat → AM → Option (Unit × AM)
  | 0, _ => none
  | n + 1, M => f_Mo_readAll_b87 (f_Mo_readAll_l87  n)   M
set_option maxRecDepth 20000 in
theorem t_Mo_readAll_b87 {G : GT} {d : Nat}   {M : AM} {Q : AM → Option Value → Prop} {yo : Unit} {Mo : AM} {rec : AM → Option (Unit × AM)} (hrec : ∀  (M : AM), WT M → rec  M = some (yo, Mo) → PW G (d + 7) 204 87 [.ref 105] [] M 0 0 Q) (k1 : WT Mo → PW G (d + 7) 204 108 [ux] [] Mo 0 0 Q) (hW : WT M)   (hf : f_Mo_readAll_b87 rec   M = some (yo, Mo)) : PW G (d + 7) 204 87 [.ref 105] [] M 0 0 Q := by
  refine P_aload_n d_204_87 rfl ?_
  refine A_gI d_204_88 cn_204 fk_CordLoftModel_152 k_105 hW ?_
  refine A_if_ne (tgt := 108) d_204_91 rfl hf (fun hf => ?_) (fun hf => ?_)
  · refine P_fgt [false] ?_
    cases hf
    exact k1 hW 
  · refine P_aload_n d_204_94 rfl ?_
    refine A_gI d_204_95 cn_204 fk_CordLoftModel_139 k_105 hW ?_
    refine A_if_eq (tgt := 108) d_204_98 rfl hf (fun hf => ?_) (fun hf => ?_)
    · refine P_fgt [false] ?_
      cases hf
      exact k1 hW 
    · refine P_aload_n d_204_101 rfl ?_
      refine A_V0 d_204_102 vk_204_363 ml_210 rfl k_105 hW rfl hf (fun r1 M2 hc hf => t_Mo_readLine hW  hc (fun hW => ?_))
      refine P_goto (tgt := 87) d_204_105 rfl ?_
      exact hrec  _ hW  hf
theorem t_Mo_readAll_l87 {G : GT} {d : Nat}  {Q : AM → Option Value → Prop} {yo : Unit} {Mo : AM} (k1 : WT Mo → PW G (d + 7) 204 108 [ux] [] Mo 0 0 Q)  : ∀ (z : Nat)  (M : AM), WT M → f_Mo_readAll_l87  z  M = some (yo, Mo) → PW G (d + 7) 204 87 [.ref 105] [] M 0 0 Q := by
  intro z
  induction z with
  | zero => intro  M hW hf; cases hf
  | succ z ih => intro  M hW hf; exact t_Mo_readAll_b87 (fun  M hW hf => ih  M hW hf) k1 hW   hf
def f_Mo_readAll  (M : AM) : Option (Unit × AM) :=
  wI M 105 5 (gI M 105 1) (fun M1 => wI M1 105 1 0 (fun M2 => wI M2 105 4 0 (fun M3 => wI M3 105 2 0 (fun M4 => wI M4 105 3 (-1) (fun M5 => wI M5 105 35 0 (fun M6 => wI M6 105 36 0 (fun M7 => wI M7 105 37 0 (fun M8 => wI M8 105 38 0 (fun M9 => wI M9 105 39 0 (fun M10 => wI M10 105 40 0 (fun M11 => wI M11 105 47 0 (fun M12 => wI M12 105 48 0 (fun M13 => wI M13 105 49 0 (fun M14 => wI M14 105 24 0 (fun M15 => wI M15 105 20 0 (fun M16 => bnd (f_Mo_token  M16) (fun r17 M18 => bnd (f_Mo_readAll_l87  fu  M18) (fun y19 M20 => some ((), M20)))))))))))))))))))
set_option maxRecDepth 20000 in
theorem t_Mo_readAll {G : GT} {d : Nat}  {M : AM} {Q : AM → Option Value → Prop} {r : Unit} {M' : AM} (hW : WT M)  (hf : f_Mo_readAll  M = some (r, M')) (k : WT M' → Q M' none)  : Cal G (d + 7) 204 [.ref 105] M Q := by
  refine A_enter ml_204 rfl ?_
  refine P_aload_n d_204_0 rfl ?_
  refine P_aload_n d_204_1 rfl ?_
  refine A_gI d_204_2 cn_204 fk_CordLoftModel_112 k_105 hW ?_
  refine A_pI d_204_5 cn_204 fp_CordLoftModel_122 k_105 hW hf (fun hW hf => ?_)
  refine P_aload_n d_204_8 rfl ?_
  refine A_iconst d_204_9 ic_0 ?_
  refine A_pI d_204_10 cn_204 fp_CordLoftModel_112 k_105 hW hf (fun hW hf => ?_)
  refine P_aload_n d_204_13 rfl ?_
  refine A_iconst d_204_14 ic_0 ?_
  refine A_pI d_204_15 cn_204 fp_CordLoftModel_119 k_105 hW hf (fun hW hf => ?_)
  refine P_aload_n d_204_18 rfl ?_
  refine A_iconst d_204_19 ic_0 ?_
  refine A_pI d_204_20 cn_204 fp_CordLoftModel_152 k_105 hW hf (fun hW hf => ?_)
  refine P_aload_n d_204_23 rfl ?_
  refine A_iconst d_204_24 ic_m1 ?_
  refine A_pI d_204_25 cn_204 fp_CordLoftModel_13 k_105 hW hf (fun hW hf => ?_)
  refine P_aload_n d_204_28 rfl ?_
  refine A_iconst d_204_29 ic_0 ?_
  refine A_pI d_204_30 cn_204 fp_CordLoftModel_223 k_105 hW hf (fun hW hf => ?_)
  refine P_aload_n d_204_33 rfl ?_
  refine A_iconst d_204_34 ic_0 ?_
  refine A_pI d_204_35 cn_204 fp_CordLoftModel_323 k_105 hW hf (fun hW hf => ?_)
  refine P_aload_n d_204_38 rfl ?_
  refine A_iconst d_204_39 ic_0 ?_
  refine A_pI d_204_40 cn_204 fp_CordLoftModel_313 k_105 hW hf (fun hW hf => ?_)
  refine P_aload_n d_204_43 rfl ?_
  refine A_iconst d_204_44 ic_0 ?_
  refine A_pI d_204_45 cn_204 fp_CordLoftModel_348 k_105 hW hf (fun hW hf => ?_)
  refine P_aload_n d_204_48 rfl ?_
  refine A_iconst d_204_49 ic_0 ?_
  refine A_pI d_204_50 cn_204 fp_CordLoftModel_354 k_105 hW hf (fun hW hf => ?_)
  refine P_aload_n d_204_53 rfl ?_
  refine A_iconst d_204_54 ic_0 ?_
  refine A_pI d_204_55 cn_204 fp_CordLoftModel_360 k_105 hW hf (fun hW hf => ?_)
  refine P_aload_n d_204_58 rfl ?_
  refine A_iconst d_204_59 ic_0 ?_
  refine A_pZ d_204_60 cn_204 fp_CordLoftModel_345 k_105 hW (Or.inl rfl) hf (fun hW hf => ?_)
  refine P_aload_n d_204_63 rfl ?_
  refine A_iconst d_204_64 ic_0 ?_
  refine A_pZ d_204_65 cn_204 fp_CordLoftModel_351 k_105 hW (Or.inl rfl) hf (fun hW hf => ?_)
  refine P_aload_n d_204_68 rfl ?_
  refine A_iconst d_204_69 ic_0 ?_
  refine A_pZ d_204_70 cn_204 fp_CordLoftModel_357 k_105 hW (Or.inl rfl) hf (fun hW hf => ?_)
  refine P_aload_n d_204_73 rfl ?_
  refine A_iconst d_204_74 ic_0 ?_
  refine A_pZ d_204_75 cn_204 fp_CordLoftModel_264 k_105 hW (Or.inl rfl) hf (fun hW hf => ?_)
  refine P_aload_n d_204_78 rfl ?_
  refine A_iconst d_204_79 ic_0 ?_
  refine A_pI d_204_80 cn_204 fp_CordLoftModel_242 k_105 hW hf (fun hW hf => ?_)
  refine P_aload_n d_204_83 rfl ?_
  refine A_V0 d_204_84 vk_204_202 ml_205 rfl k_105 hW rfl hf (fun r17 M18 hc hf => t_Mo_token hW  hc (fun hW => ?_))
  obtain ⟨y19, M20, hl, hf⟩ := bnd_some hf
  refine t_Mo_readAll_l87 (fun hW => ?_)  fu  _ hW  hl
  exact A_ret d_204_108 mr_204 hW hf k
def f_Mo_loft_b278 (rec : Int32 → AM → Option (Unit × AM))  (v1 : Int32) (M : AM) : Option (Unit × AM) :=
  if 3 ≤ v1 then some ((), M) else ast 3 M 136 v1 0 (fun M1 => rec (v1 + 1) M1)
def f_Mo_loft_l278  : Nat → Int32 → AM → Option (Unit × AM)
  | 0, _, _ => none
  | n + 1, v1, M => f_Mo_loft_b278 (f_Mo_loft_l278  n)  v1 M
set_option maxRecDepth 20000 in
theorem t_Mo_loft_b278 {G : GT} {d : Nat}  {v1 : Int32} {M : AM} {Q : AM → Option Value → Prop} {yo : Unit} {Mo : AM} {rec : Int32 → AM → Option (Unit × AM)} (hrec : ∀ (v1 : Int32) (M : AM), WT M → rec v1 M = some (yo, Mo) → PW G (d + 8) 203 278 [.ref 105, .int v1] [] M 0 0 Q) (k1 : WT Mo → PW G (d + 8) 203 296 [.ref 105, ux] [] Mo 0 0 Q) (hW : WT M)   (hf : f_Mo_loft_b278 rec  v1 M = some (yo, Mo)) : PW G (d + 8) 203 278 [.ref 105, .int v1] [] M 0 0 Q := by
  refine P_iload_n d_203_278 rfl ?_
  refine A_iconst d_203_279 ic_3 ?_
  refine A_icmp_ge (tgt := 296) d_203_280 rfl hf (fun hf => ?_) (fun hf => ?_)
  · refine P_fgt [true, false] ?_
    cases hf
    exact k1 hW 
  · refine P_aload_n d_203_283 rfl ?_
    refine A_gF d_203_284 cn_203 fk_CordLoftModel_106 ft_13_69 k_105 hW ?_
    refine P_iload_n d_203_287 rfl ?_
    refine A_iconst d_203_288 ic_0 ?_
    refine A_zast d_203_289 k_136 l_136 hW (Or.inl rfl) hf (fun hW hf => ?_)
    refine A_iinc d_203_290 ic_1 rfl ml_203 rfl rfl ?_
    refine P_goto (tgt := 278) d_203_293 rfl ?_
    exact hrec _ _ hW  hf
theorem t_Mo_loft_l278 {G : GT} {d : Nat}  {Q : AM → Option Value → Prop} {yo : Unit} {Mo : AM} (k1 : WT Mo → PW G (d + 8) 203 296 [.ref 105, ux] [] Mo 0 0 Q)  : ∀ (z : Nat) (v1 : Int32) (M : AM), WT M → f_Mo_loft_l278  z v1 M = some (yo, Mo) → PW G (d + 8) 203 278 [.ref 105, .int v1] [] M 0 0 Q := by
  intro z
  induction z with
  | zero => intro v1 M hW hf; cases hf
  | succ z ih => intro v1 M hW hf; exact t_Mo_loft_b278 (fun v1 M hW hf => ih v1 M hW hf) k1 hW   hf
def f_Mo_loft_b218 (rec : Int32 → AM → Option (Unit × AM))  (v1 : Int32) (M : AM) : Option (Unit × AM) :=
  if 5 ≤ v1 then some ((), M) else ast 5 M 123 v1 0 (fun M1 => rec (v1 + 1) M1)
def f_Mo_loft_l218  : Nat → Int32 → AM → Option (Unit × AM)
  | 0, _, _ => none
  | n + 1, v1, M => f_Mo_loft_b218 (f_Mo_loft_l218  n)  v1 M
set_option maxRecDepth 20000 in
theorem t_Mo_loft_b218 {G : GT} {d : Nat}  {v1 : Int32} {M : AM} {Q : AM → Option Value → Prop} {yo : Unit} {Mo : AM} {rec : Int32 → AM → Option (Unit × AM)} (hrec : ∀ (v1 : Int32) (M : AM), WT M → rec v1 M = some (yo, Mo) → PW G (d + 8) 203 218 [.ref 105, .int v1] [] M 0 0 Q) (k1 : WT Mo → PW G (d + 8) 203 236 [.ref 105, ux] [] Mo 0 0 Q) (hW : WT M)   (hf : f_Mo_loft_b218 rec  v1 M = some (yo, Mo)) : PW G (d + 8) 203 218 [.ref 105, .int v1] [] M 0 0 Q := by
  refine P_iload_n d_203_218 rfl ?_
  refine A_iconst d_203_219 ic_5 ?_
  refine A_icmp_ge (tgt := 236) d_203_220 rfl hf (fun hf => ?_) (fun hf => ?_)
  · refine P_fgt [true, false] ?_
    cases hf
    exact k1 hW 
  · refine P_aload_n d_203_223 rfl ?_
    refine A_gF d_203_224 cn_203 fk_CordLoftModel_66 ft_13_50 k_105 hW ?_
    refine P_iload_n d_203_227 rfl ?_
    refine A_iconst d_203_228 ic_0 ?_
    refine A_iast d_203_229 k_123 l_123 hW hf (fun hW hf => ?_)
    refine A_iinc d_203_230 ic_1 rfl ml_203 rfl rfl ?_
    refine P_goto (tgt := 218) d_203_233 rfl ?_
    exact hrec _ _ hW  hf
theorem t_Mo_loft_l218 {G : GT} {d : Nat}  {Q : AM → Option Value → Prop} {yo : Unit} {Mo : AM} (k1 : WT Mo → PW G (d + 8) 203 236 [.ref 105, ux] [] Mo 0 0 Q)  : ∀ (z : Nat) (v1 : Int32) (M : AM), WT M → f_Mo_loft_l218  z v1 M = some (yo, Mo) → PW G (d + 8) 203 218 [.ref 105, .int v1] [] M 0 0 Q := by
  intro z
  induction z with
  | zero => intro v1 M hW hf; cases hf
  | succ z ih => intro v1 M hW hf; exact t_Mo_loft_b218 (fun v1 M hW hf => ih v1 M hW hf) k1 hW   hf
def f_Mo_loft_b178 (rec : Int32 → AM → Option (Unit × AM))  (v1 : Int32) (M : AM) : Option (Unit × AM) :=
  if (gI M 105 42) ≤ v1 then some ((), M) else ald 8 M 117 v1 (fun x1 => ast 8 M 121 v1 x1 (fun M2 => ald 8 M2 118 v1 (fun x3 => ast 8 M2 122 v1 x3 (fun M4 => rec (v1 + 1) M4))))
def f_Mo_loft_l178  : Nat → Int32 → AM → Option (Unit × AM)
  | 0, _, _ => none
  | n + 1, v1, M => f_Mo_loft_b178 (f_Mo_loft_l178  n)  v1 M
set_option maxRecDepth 20000 in
theorem t_Mo_loft_b178 {G : GT} {d : Nat}  {v1 : Int32} {M : AM} {Q : AM → Option Value → Prop} {yo : Unit} {Mo : AM} {rec : Int32 → AM → Option (Unit × AM)} (hrec : ∀ (v1 : Int32) (M : AM), WT M → rec v1 M = some (yo, Mo) → PW G (d + 8) 203 178 [.ref 105, .int v1] [] M 0 0 Q) (k1 : WT Mo → PW G (d + 8) 203 216 [.ref 105, ux] [] Mo 0 0 Q) (hW : WT M)   (hf : f_Mo_loft_b178 rec  v1 M = some (yo, Mo)) : PW G (d + 8) 203 178 [.ref 105, .int v1] [] M 0 0 Q := by
  refine P_iload_n d_203_178 rfl ?_
  refine P_aload_n d_203_179 rfl ?_
  refine A_gI d_203_180 cn_203 fk_CordLoftModel_369 k_105 hW ?_
  refine A_icmp_ge (tgt := 216) d_203_183 rfl hf (fun hf => ?_) (fun hf => ?_)
  · refine P_fgt [true, false] ?_
    cases hf
    exact k1 hW 
  · refine P_aload_n d_203_186 rfl ?_
    refine A_gF d_203_187 cn_203 fk_CordLoftModel_60 ft_13_33 k_105 hW ?_
    refine P_iload_n d_203_190 rfl ?_
    refine P_aload_n d_203_191 rfl ?_
    refine A_gF d_203_192 cn_203 fk_CordLoftModel_48 ft_13_29 k_105 hW ?_
    refine P_iload_n d_203_195 rfl ?_
    refine A_iald d_203_196 k_117 l_117 hW hf (fun hf => ?_)
    refine A_iast d_203_197 k_121 l_121 hW hf (fun hW hf => ?_)
    refine P_aload_n d_203_198 rfl ?_
    refine A_gF d_203_199 cn_203 fk_CordLoftModel_63 ft_13_34 k_105 hW ?_
    refine P_iload_n d_203_202 rfl ?_
    refine P_aload_n d_203_203 rfl ?_
    refine A_gF d_203_204 cn_203 fk_CordLoftModel_51 ft_13_30 k_105 hW ?_
    refine P_iload_n d_203_207 rfl ?_
    refine A_iald d_203_208 k_118 l_118 hW hf (fun hf => ?_)
    refine A_iast d_203_209 k_122 l_122 hW hf (fun hW hf => ?_)
    refine A_iinc d_203_210 ic_1 rfl ml_203 rfl rfl ?_
    refine P_goto (tgt := 178) d_203_213 rfl ?_
    exact hrec _ _ hW  hf
theorem t_Mo_loft_l178 {G : GT} {d : Nat}  {Q : AM → Option Value → Prop} {yo : Unit} {Mo : AM} (k1 : WT Mo → PW G (d + 8) 203 216 [.ref 105, ux] [] Mo 0 0 Q)  : ∀ (z : Nat) (v1 : Int32) (M : AM), WT M → f_Mo_loft_l178  z v1 M = some (yo, Mo) → PW G (d + 8) 203 178 [.ref 105, .int v1] [] M 0 0 Q := by
  intro z
  induction z with
  | zero => intro v1 M hW hf; cases hf
  | succ z ih => intro v1 M hW hf; exact t_Mo_loft_b178 (fun v1 M hW hf => ih v1 M hW hf) k1 hW   hf
def f_Mo_loft_b138 (rec : Int32 → AM → Option (Unit × AM))  (v1 : Int32) (M : AM) : Option (Unit × AM) :=
  if (gI M 105 41) ≤ v1 then some ((), M) else ald 8 M 115 v1 (fun x1 => ast 8 M 119 v1 x1 (fun M2 => ald 8 M2 116 v1 (fun x3 => ast 8 M2 120 v1 x3 (fun M4 => rec (v1 + 1) M4))))
def f_Mo_loft_l138  : Nat → Int32 → AM → Option (Unit × AM)
  | 0, _, _ => none
  | n + 1, v1, M => f_Mo_loft_b138 (f_Mo_loft_l138  n)  v1 M
set_option maxRecDepth 20000 in
theorem t_Mo_loft_b138 {G : GT} {d : Nat}  {v1 : Int32} {M : AM} {Q : AM → Option Value → Prop} {yo : Unit} {Mo : AM} {rec : Int32 → AM → Option (Unit × AM)} (hrec : ∀ (v1 : Int32) (M : AM), WT M → rec v1 M = some (yo, Mo) → PW G (d + 8) 203 138 [.ref 105, .int v1] [] M 0 0 Q) (k1 : WT Mo → PW G (d + 8) 203 176 [.ref 105, ux] [] Mo 0 0 Q) (hW : WT M)   (hf : f_Mo_loft_b138 rec  v1 M = some (yo, Mo)) : PW G (d + 8) 203 138 [.ref 105, .int v1] [] M 0 0 Q := by
  refine P_iload_n d_203_138 rfl ?_
  refine P_aload_n d_203_139 rfl ?_
  refine A_gI d_203_140 cn_203 fk_CordLoftModel_303 k_105 hW ?_
  refine A_icmp_ge (tgt := 176) d_203_143 rfl hf (fun hf => ?_) (fun hf => ?_)
  · refine P_fgt [true, false] ?_
    cases hf
    exact k1 hW 
  · refine P_aload_n d_203_146 rfl ?_
    refine A_gF d_203_147 cn_203 fk_CordLoftModel_54 ft_13_31 k_105 hW ?_
    refine P_iload_n d_203_150 rfl ?_
    refine P_aload_n d_203_151 rfl ?_
    refine A_gF d_203_152 cn_203 fk_CordLoftModel_42 ft_13_27 k_105 hW ?_
    refine P_iload_n d_203_155 rfl ?_
    refine A_iald d_203_156 k_115 l_115 hW hf (fun hf => ?_)
    refine A_iast d_203_157 k_119 l_119 hW hf (fun hW hf => ?_)
    refine P_aload_n d_203_158 rfl ?_
    refine A_gF d_203_159 cn_203 fk_CordLoftModel_57 ft_13_32 k_105 hW ?_
    refine P_iload_n d_203_162 rfl ?_
    refine P_aload_n d_203_163 rfl ?_
    refine A_gF d_203_164 cn_203 fk_CordLoftModel_45 ft_13_28 k_105 hW ?_
    refine P_iload_n d_203_167 rfl ?_
    refine A_iald d_203_168 k_116 l_116 hW hf (fun hf => ?_)
    refine A_iast d_203_169 k_120 l_120 hW hf (fun hW hf => ?_)
    refine A_iinc d_203_170 ic_1 rfl ml_203 rfl rfl ?_
    refine P_goto (tgt := 138) d_203_173 rfl ?_
    exact hrec _ _ hW  hf
theorem t_Mo_loft_l138 {G : GT} {d : Nat}  {Q : AM → Option Value → Prop} {yo : Unit} {Mo : AM} (k1 : WT Mo → PW G (d + 8) 203 176 [.ref 105, ux] [] Mo 0 0 Q)  : ∀ (z : Nat) (v1 : Int32) (M : AM), WT M → f_Mo_loft_l138  z v1 M = some (yo, Mo) → PW G (d + 8) 203 138 [.ref 105, .int v1] [] M 0 0 Q := by
  intro z
  induction z with
  | zero => intro v1 M hW hf; cases hf
  | succ z ih => intro v1 M hW hf; exact t_Mo_loft_b138 (fun v1 M hW hf => ih v1 M hW hf) k1 hW   hf
def f_Mo_loft_b98 (rec : Int32 → AM → Option (Unit × AM))  (v1 : Int32) (M : AM) : Option (Unit × AM) :=
  if (gI M 105 18) ≤ v1 then some ((), M) else ald 320 M 108 v1 (fun x1 => ast 320 M 110 v1 x1 (fun M2 => ald 320 M2 109 v1 (fun x3 => ast 320 M2 111 v1 x3 (fun M4 => rec (v1 + 1) M4))))
def f_Mo_loft_l98  : Nat → Int32 → AM → Option (Unit × AM)
  | 0, _, _ => none
  | n + 1, v1, M => f_Mo_loft_b98 (f_Mo_loft_l98  n)  v1 M
set_option maxRecDepth 20000 in
theorem t_Mo_loft_b98 {G : GT} {d : Nat}  {v1 : Int32} {M : AM} {Q : AM → Option Value → Prop} {yo : Unit} {Mo : AM} {rec : Int32 → AM → Option (Unit × AM)} (hrec : ∀ (v1 : Int32) (M : AM), WT M → rec v1 M = some (yo, Mo) → PW G (d + 8) 203 98 [.ref 105, .int v1] [] M 0 0 Q) (k1 : WT Mo → PW G (d + 8) 203 136 [.ref 105, ux] [] Mo 0 0 Q) (hW : WT M)   (hf : f_Mo_loft_b98 rec  v1 M = some (yo, Mo)) : PW G (d + 8) 203 98 [.ref 105, .int v1] [] M 0 0 Q := by
  refine P_iload_n d_203_98 rfl ?_
  refine P_aload_n d_203_99 rfl ?_
  refine A_gI d_203_100 cn_203 fk_CordLoftModel_296 k_105 hW ?_
  refine A_icmp_ge (tgt := 136) d_203_103 rfl hf (fun hf => ?_) (fun hf => ?_)
  · refine P_fgt [true, false] ?_
    cases hf
    exact k1 hW 
  · refine P_aload_n d_203_106 rfl ?_
    refine A_gF d_203_107 cn_203 fk_CordLoftModel_27 ft_13_13 k_105 hW ?_
    refine P_iload_n d_203_110 rfl ?_
    refine P_aload_n d_203_111 rfl ?_
    refine A_gF d_203_112 cn_203 fk_CordLoftModel_21 ft_13_11 k_105 hW ?_
    refine P_iload_n d_203_115 rfl ?_
    refine A_iald d_203_116 k_108 l_108 hW hf (fun hf => ?_)
    refine A_iast d_203_117 k_110 l_110 hW hf (fun hW hf => ?_)
    refine P_aload_n d_203_118 rfl ?_
    refine A_gF d_203_119 cn_203 fk_CordLoftModel_30 ft_13_14 k_105 hW ?_
    refine P_iload_n d_203_122 rfl ?_
    refine P_aload_n d_203_123 rfl ?_
    refine A_gF d_203_124 cn_203 fk_CordLoftModel_24 ft_13_12 k_105 hW ?_
    refine P_iload_n d_203_127 rfl ?_
    refine A_iald d_203_128 k_109 l_109 hW hf (fun hf => ?_)
    refine A_iast d_203_129 k_111 l_111 hW hf (fun hW hf => ?_)
    refine A_iinc d_203_130 ic_1 rfl ml_203 rfl rfl ?_
    refine P_goto (tgt := 98) d_203_133 rfl ?_
    exact hrec _ _ hW  hf
theorem t_Mo_loft_l98 {G : GT} {d : Nat}  {Q : AM → Option Value → Prop} {yo : Unit} {Mo : AM} (k1 : WT Mo → PW G (d + 8) 203 136 [.ref 105, ux] [] Mo 0 0 Q)  : ∀ (z : Nat) (v1 : Int32) (M : AM), WT M → f_Mo_loft_l98  z v1 M = some (yo, Mo) → PW G (d + 8) 203 98 [.ref 105, .int v1] [] M 0 0 Q := by
  intro z
  induction z with
  | zero => intro v1 M hW hf; cases hf
  | succ z ih => intro v1 M hW hf; exact t_Mo_loft_b98 (fun v1 M hW hf => ih v1 M hW hf) k1 hW   hf
def f_Mo_loft_j93 (s1 : Int32) (M : AM) : Option (Int32 × AM) :=
  wI M 105 18 s1 (fun M1 => bnd (f_Mo_loft_l98  fu 0 M1) (fun y2 M3 => bnd (f_Mo_loft_l138  fu 0 M3) (fun y4 M5 => bnd (f_Mo_loft_l178  fu 0 M5) (fun y6 M7 => bnd (f_Mo_loft_l218  fu 0 M7) (fun y8 M9 => ast 5 M9 123 0 (gI M9 105 43) (fun M10 => ast 5 M10 123 4 (gI M10 105 46) (fun M11 => wI M11 105 52 0 (fun M12 => wI M12 105 53 0 (fun M13 => wI M13 105 67 0 (fun M14 => wI M14 105 59 0 (fun M15 => bnd (f_Mo_loft_l278  fu 0 M15) (fun y16 M17 => some (gI M17 105 41, M17)))))))))))))
set_option maxRecDepth 20000 in
theorem t_Mo_loft_j93 {G : GT} {d : Nat} {s1 : Int32} {M : AM} {Q : AM → Option Value → Prop} {r : Int32} {M' : AM} (k : WT M' → Q M' (some (.int r))) (hW : WT M)  (hf : f_Mo_loft_j93 s1 M = some (r, M')) : PW G (d + 8) 203 93 [.ref 105, ux] [.int s1, .ref 105] M 0 0 Q := by
  refine A_pI d_203_93 cn_203 fp_CordLoftModel_296 k_105 hW hf (fun hW hf => ?_)
  refine A_iconst d_203_96 ic_0 ?_
  refine A_istore_n d_203_97 ml_203 rfl rfl ?_
  obtain ⟨y2, M3, hl, hf⟩ := bnd_some hf
  refine t_Mo_loft_l98 (fun hW => ?_)  fu _ _ hW  hl
  refine A_iconst d_203_136 ic_0 ?_
  refine A_istore_n d_203_137 ml_203 rfl rfl ?_
  obtain ⟨y4, M5, hl, hf⟩ := bnd_some hf
  refine t_Mo_loft_l138 (fun hW => ?_)  fu _ _ hW  hl
  refine A_iconst d_203_176 ic_0 ?_
  refine A_istore_n d_203_177 ml_203 rfl rfl ?_
  obtain ⟨y6, M7, hl, hf⟩ := bnd_some hf
  refine t_Mo_loft_l178 (fun hW => ?_)  fu _ _ hW  hl
  refine A_iconst d_203_216 ic_0 ?_
  refine A_istore_n d_203_217 ml_203 rfl rfl ?_
  obtain ⟨y8, M9, hl, hf⟩ := bnd_some hf
  refine t_Mo_loft_l218 (fun hW => ?_)  fu _ _ hW  hl
  refine P_aload_n d_203_236 rfl ?_
  refine A_gF d_203_237 cn_203 fk_CordLoftModel_66 ft_13_50 k_105 hW ?_
  refine A_iconst d_203_240 ic_0 ?_
  refine P_aload_n d_203_241 rfl ?_
  refine A_gI d_203_242 cn_203 fk_CordLoftModel_372 k_105 hW ?_
  refine A_iast d_203_245 k_123 l_123 hW hf (fun hW hf => ?_)
  refine P_aload_n d_203_246 rfl ?_
  refine A_gF d_203_247 cn_203 fk_CordLoftModel_66 ft_13_50 k_105 hW ?_
  refine A_iconst d_203_250 ic_4 ?_
  refine P_aload_n d_203_251 rfl ?_
  refine A_gI d_203_252 cn_203 fk_CordLoftModel_381 k_105 hW ?_
  refine A_iast d_203_255 k_123 l_123 hW hf (fun hW hf => ?_)
  refine P_aload_n d_203_256 rfl ?_
  refine A_iconst d_203_257 ic_0 ?_
  refine A_pI d_203_258 cn_203 fp_CordLoftModel_387 k_105 hW hf (fun hW hf => ?_)
  refine P_aload_n d_203_261 rfl ?_
  refine A_iconst d_203_262 ic_0 ?_
  refine A_pI d_203_263 cn_203 fp_CordLoftModel_390 k_105 hW hf (fun hW hf => ?_)
  refine P_aload_n d_203_266 rfl ?_
  refine A_iconst d_203_267 ic_0 ?_
  refine A_pI d_203_268 cn_203 fp_CordLoftModel_393 k_105 hW hf (fun hW hf => ?_)
  refine P_aload_n d_203_271 rfl ?_
  refine A_iconst d_203_272 ic_0 ?_
  refine A_pI d_203_273 cn_203 fp_CordLoftModel_396 k_105 hW hf (fun hW hf => ?_)
  refine A_iconst d_203_276 ic_0 ?_
  refine A_istore_n d_203_277 ml_203 rfl rfl ?_
  obtain ⟨y16, M17, hl, hf⟩ := bnd_some hf
  refine t_Mo_loft_l278 (fun hW => ?_)  fu _ _ hW  hl
  refine P_aload_n d_203_296 rfl ?_
  refine A_gI d_203_297 cn_203 fk_CordLoftModel_303 k_105 hW ?_
  exact A_iret d_203_300 mr_203 hW hf k
def f_Mo_loft  (M : AM) : Option (Int32 × AM) :=
  bnd (f_Mo_readAll  M) (fun r1 M2 => if (gI M2 105 2) ≤ 0 then wI M2 105 41 (gI M2 105 35) (fun M3 => wI M3 105 42 (gI M3 105 36) (fun M4 => wI M4 105 43 (gI M4 105 37) (fun M5 => wI M5 105 44 (gI M5 105 38) (fun M6 => wI M6 105 45 (gI M6 105 39) (fun M7 => wI M7 105 46 (gI M7 105 40) (fun M8 => wI M8 105 21 (gI M8 105 20) (fun M9 => ckB (gI M9 105 24) (wI M9 105 25 (gI M9 105 24) (fun M10 => if (gI M10 105 24) = 0 then f_Mo_loft_j93 0 M10 else f_Mo_loft_j93 (gI M10 105 17) M10))))))))) else some ((-1), M2))
set_option maxRecDepth 20000 in
theorem t_Mo_loft {G : GT} {d : Nat}  {M : AM} {Q : AM → Option Value → Prop} {r : Int32} {M' : AM} (hW : WT M)  (hf : f_Mo_loft  M = some (r, M')) (k : WT M' → Q M' (some (.int r)))  : Cal G (d + 8) 203 [.ref 105] M Q := by
  refine A_enter ml_203 rfl ?_
  refine P_aload_n d_203_0 rfl ?_
  refine A_V0 d_203_1 vk_203_366 ml_204 rfl k_105 hW rfl hf (fun r1 M2 hc hf => t_Mo_readAll hW  hc (fun hW => ?_))
  refine P_aload_n d_203_4 rfl ?_
  refine A_gI d_203_5 cn_203 fk_CordLoftModel_152 k_105 hW ?_
  refine A_if_le (tgt := 13) d_203_8 rfl hf (fun hf => ?_) (fun hf => ?_)
  · refine P_aload_n d_203_13 rfl ?_
    refine P_aload_n d_203_14 rfl ?_
    refine A_gI d_203_15 cn_203 fk_CordLoftModel_223 k_105 hW ?_
    refine A_pI d_203_18 cn_203 fp_CordLoftModel_303 k_105 hW hf (fun hW hf => ?_)
    refine P_aload_n d_203_21 rfl ?_
    refine P_aload_n d_203_22 rfl ?_
    refine A_gI d_203_23 cn_203 fk_CordLoftModel_323 k_105 hW ?_
    refine A_pI d_203_26 cn_203 fp_CordLoftModel_369 k_105 hW hf (fun hW hf => ?_)
    refine P_aload_n d_203_29 rfl ?_
    refine P_aload_n d_203_30 rfl ?_
    refine A_gI d_203_31 cn_203 fk_CordLoftModel_313 k_105 hW ?_
    refine A_pI d_203_34 cn_203 fp_CordLoftModel_372 k_105 hW hf (fun hW hf => ?_)
    refine P_aload_n d_203_37 rfl ?_
    refine P_aload_n d_203_38 rfl ?_
    refine A_gI d_203_39 cn_203 fk_CordLoftModel_348 k_105 hW ?_
    refine A_pI d_203_42 cn_203 fp_CordLoftModel_375 k_105 hW hf (fun hW hf => ?_)
    refine P_aload_n d_203_45 rfl ?_
    refine P_aload_n d_203_46 rfl ?_
    refine A_gI d_203_47 cn_203 fk_CordLoftModel_354 k_105 hW ?_
    refine A_pI d_203_50 cn_203 fp_CordLoftModel_378 k_105 hW hf (fun hW hf => ?_)
    refine P_aload_n d_203_53 rfl ?_
    refine P_aload_n d_203_54 rfl ?_
    refine A_gI d_203_55 cn_203 fk_CordLoftModel_360 k_105 hW ?_
    refine A_pI d_203_58 cn_203 fp_CordLoftModel_381 k_105 hW hf (fun hW hf => ?_)
    refine P_aload_n d_203_61 rfl ?_
    refine P_aload_n d_203_62 rfl ?_
    refine A_gI d_203_63 cn_203 fk_CordLoftModel_242 k_105 hW ?_
    refine A_pI d_203_66 cn_203 fp_CordLoftModel_384 k_105 hW hf (fun hW hf => ?_)
    refine P_aload_n d_203_69 rfl ?_
    refine P_aload_n d_203_70 rfl ?_
    refine A_gZ d_203_71 cn_203 fk_CordLoftModel_264 k_105 hW ?_
    refine A_ckB hf (fun hb11 hf => ?_)
    refine A_pZ d_203_74 cn_203 fp_CordLoftModel_287 k_105 hW hb11 hf (fun hW hf => ?_)
    refine P_aload_n d_203_77 rfl ?_
    refine P_aload_n d_203_78 rfl ?_
    refine A_gZ d_203_79 cn_203 fk_CordLoftModel_264 k_105 hW ?_
    refine A_if_eq (tgt := 92) d_203_82 rfl hf (fun hf => ?_) (fun hf => ?_)
    · refine A_iconst d_203_92 ic_0 ?_
      exact t_Mo_loft_j93 k hW  hf
    · refine P_aload_n d_203_85 rfl ?_
      refine A_gI d_203_86 cn_203 fk_CordLoftModel_226 k_105 hW ?_
      refine P_goto (tgt := 93) d_203_89 rfl ?_
      exact t_Mo_loft_j93 k hW  hf
  · refine A_iconst d_203_11 ic_m1 ?_
    exact A_iret d_203_12 mr_203 hW hf k
def f_Mo_fault (a1 : Int32) (M : AM) : Option (Int32 × AM) :=
  if a1 = 0 then some (gI M 105 2, M) else if a1 = 1 then some (gI M 105 3, M) else some ((-1), M)
set_option maxRecDepth 20000 in
theorem t_Mo_fault {G : GT} {d : Nat} {a1 : Int32} {M : AM} {Q : AM → Option Value → Prop} {r : Int32} {M' : AM} (hW : WT M)  (hf : f_Mo_fault a1 M = some (r, M')) (k : WT M' → Q M' (some (.int r)))  : Cal G d 240 [.ref 105, .int a1] M Q := by
  refine A_enter ml_240 rfl ?_
  refine P_iload_n d_240_0 rfl ?_
  refine A_if_ne (tgt := 11) d_240_1 rfl hf (fun hf => ?_) (fun hf => ?_)
  · refine P_iload_n d_240_11 rfl ?_
    refine A_iconst d_240_12 ic_1 ?_
    refine A_icmp_ne (tgt := 23) d_240_13 rfl hf (fun hf => ?_) (fun hf => ?_)
    · refine A_iconst d_240_23 ic_m1 ?_
      exact A_iret d_240_24 mr_240 hW hf k
    · refine P_aload_n d_240_16 rfl ?_
      refine A_gI d_240_17 cn_240 fk_CordLoftModel_13 k_105 hW ?_
      refine P_goto (tgt := 24) d_240_20 rfl ?_
      exact A_iret d_240_24 mr_240 hW hf k
  · refine P_aload_n d_240_4 rfl ?_
    refine A_gI d_240_5 cn_240 fk_CordLoftModel_152 k_105 hW ?_
    refine P_goto (tgt := 24) d_240_8 rfl ?_
    exact A_iret d_240_24 mr_240 hW hf k
def f_Mo_isIn (a0 : Int32) (a1 : Int32) (a2 : Int32) (M : AM) : Option (Int32 × AM) :=
  if a0 < a1 then some (0, M) else if a2 < a0 then some (0, M) else some (1, M)
set_option maxRecDepth 20000 in
theorem t_Mo_isIn {G : GT} {d : Nat} {a0 : Int32} {a1 : Int32} {a2 : Int32} {M : AM} {Q : AM → Option Value → Prop} {r : Int32} {M' : AM} (hW : WT M)  (hf : f_Mo_isIn a0 a1 a2 M = some (r, M')) (k : WT M' → (r = 0 ∨ r = 1) → Q M' (some (.int r)))  : Cal G d 243 [.int a0, .int a1, .int a2] M Q := by
  refine A_enter ml_243 rfl ?_
  refine P_iload_n d_243_0 rfl ?_
  refine P_iload_n d_243_1 rfl ?_
  refine A_icmp_lt (tgt := 14) d_243_2 rfl hf (fun hf => ?_) (fun hf => ?_)
  · refine A_iconst d_243_14 ic_0 ?_
    exact A_zret d_243_15 mr_243 hW (Or.inl rfl) hf k
  · refine P_iload_n d_243_5 rfl ?_
    refine P_iload_n d_243_6 rfl ?_
    refine A_icmp_gt (tgt := 14) d_243_7 rfl hf (fun hf => ?_) (fun hf => ?_)
    · refine A_iconst d_243_14 ic_0 ?_
      exact A_zret d_243_15 mr_243 hW (Or.inl rfl) hf k
    · refine A_iconst d_243_10 ic_1 ?_
      refine P_goto (tgt := 15) d_243_11 rfl ?_
      exact A_zret d_243_15 mr_243 hW (Or.inr rfl) hf k
def f_Mo_isLamp (a1 : Int32) (M : AM) : Option (Int32 × AM) :=
  bnd (f_Mo_isIn a1 0 ((gI M 105 41) - 1) M) (fun r1 M2 => some (r1, M2))
set_option maxRecDepth 20000 in
theorem t_Mo_isLamp {G : GT} {d : Nat} {a1 : Int32} {M : AM} {Q : AM → Option Value → Prop} {r : Int32} {M' : AM} (hW : WT M)  (hf : f_Mo_isLamp a1 M = some (r, M')) (k : WT M' → (r = 0 ∨ r = 1) → Q M' (some (.int r)))  : Cal G (d + 1) 242 [.ref 105, .int a1] M Q := by
  refine A_enter ml_242 rfl ?_
  refine P_iload_n d_242_0 rfl ?_
  refine A_iconst d_242_1 ic_0 ?_
  refine P_aload_n d_242_2 rfl ?_
  refine A_gI d_242_3 cn_242 fk_CordLoftModel_303 k_105 hW ?_
  refine A_iconst d_242_6 ic_1 ?_
  refine P_isub d_242_7 ?_
  refine A_S3 d_242_8 sk_242_399 ml_243 rfl rfl hf (fun r1 M2 hc hf => t_Mo_isIn hW  hc (fun hW hb2 => ?_))
  exact A_zret d_242_11 mr_242 hW hb2 hf k
def f_Mo_cordsOf_b4 (rec : Int32 → Int32 → AM → Option (Int32 × AM)) (v1 : Int32) (v2 : Int32) (v3 : Int32) (M : AM) : Option (Int32 × AM) :=
  if (gI M 105 42) ≤ v3 then some (v2, M) else ald 8 M 121 v3 (fun x1 => rec (v2 ||| (((x1 >>> (v1 &&& 31)) &&& 1) <<< (v3 &&& 31))) (v3 + 1) M)
def f_Mo_cordsOf_l4 (v1 : Int32) : Nat → Int32 → Int32 → AM → Option (Int32 × AM)
  | 0, _, _, _ => none
  | n + 1, v2, v3, M => f_Mo_cordsOf_b4 (f_Mo_cordsOf_l4 v1 n) v1 v2 v3 M
set_option maxRecDepth 20000 in
theorem t_Mo_cordsOf_b4 {G : GT} {d : Nat} {v1 : Int32} {v2 : Int32} {v3 : Int32} {M : AM} {Q : AM → Option Value → Prop} {yo : Int32} {Mo : AM} {rec : Int32 → Int32 → AM → Option (Int32 × AM)} (hrec : ∀ (v2 : Int32) (v3 : Int32) (M : AM), WT M → rec v2 v3 M = some (yo, Mo) → PW G d 244 4 [.ref 105, .int v1, .int v2, .int v3] [] M 0 0 Q) (k1 : WT Mo → PW G d 244 33 [ux, ux, .int yo, ux] [] Mo 0 0 Q) (hW : WT M)   (hf : f_Mo_cordsOf_b4 rec v1 v2 v3 M = some (yo, Mo)) : PW G d 244 4 [.ref 105, .int v1, .int v2, .int v3] [] M 0 0 Q := by
  refine P_iload_n d_244_4 rfl ?_
  refine P_aload_n d_244_5 rfl ?_
  refine A_gI d_244_6 cn_244 fk_CordLoftModel_369 k_105 hW ?_
  refine A_icmp_ge (tgt := 33) d_244_9 rfl hf (fun hf => ?_) (fun hf => ?_)
  · refine P_fgt [false, false, true, false] ?_
    cases hf
    exact k1 hW 
  · refine P_iload_n d_244_12 rfl ?_
    refine P_aload_n d_244_13 rfl ?_
    refine A_gF d_244_14 cn_244 fk_CordLoftModel_60 ft_13_33 k_105 hW ?_
    refine P_iload_n d_244_17 rfl ?_
    refine A_iald d_244_18 k_121 l_121 hW hf (fun hf => ?_)
    refine P_iload_n d_244_19 rfl ?_
    refine P_ishr d_244_20 ?_
    refine A_iconst d_244_21 ic_1 ?_
    refine P_iand d_244_22 ?_
    refine P_iload_n d_244_23 rfl ?_
    refine P_ishl d_244_24 ?_
    refine P_ior d_244_25 ?_
    refine A_istore_n d_244_26 ml_244 rfl rfl ?_
    refine A_iinc d_244_27 ic_1 rfl ml_244 rfl rfl ?_
    refine P_goto (tgt := 4) d_244_30 rfl ?_
    exact hrec _ _ _ hW  hf
theorem t_Mo_cordsOf_l4 {G : GT} {d : Nat} {v1 : Int32} {Q : AM → Option Value → Prop} {yo : Int32} {Mo : AM} (k1 : WT Mo → PW G d 244 33 [ux, ux, .int yo, ux] [] Mo 0 0 Q)  : ∀ (z : Nat) (v2 : Int32) (v3 : Int32) (M : AM), WT M → f_Mo_cordsOf_l4 v1 z v2 v3 M = some (yo, Mo) → PW G d 244 4 [.ref 105, .int v1, .int v2, .int v3] [] M 0 0 Q := by
  intro z
  induction z with
  | zero => intro v2 v3 M hW hf; cases hf
  | succ z ih => intro v2 v3 M hW hf; exact t_Mo_cordsOf_b4 (fun v2 v3 M hW hf => ih v2 v3 M hW hf) k1 hW   hf
def f_Mo_cordsOf (a1 : Int32) (M : AM) : Option (Int32 × AM) :=
  bnd (f_Mo_cordsOf_l4 a1 fu 0 0 M) (fun y1 M2 => some (y1, M2))
set_option maxRecDepth 20000 in
theorem t_Mo_cordsOf {G : GT} {d : Nat} {a1 : Int32} {M : AM} {Q : AM → Option Value → Prop} {r : Int32} {M' : AM} (hW : WT M)  (hf : f_Mo_cordsOf a1 M = some (r, M')) (k : WT M' → Q M' (some (.int r)))  : Cal G d 244 [.ref 105, .int a1] M Q := by
  refine A_enter ml_244 rfl ?_
  refine A_iconst d_244_0 ic_0 ?_
  refine A_istore_n d_244_1 ml_244 rfl rfl ?_
  refine A_iconst d_244_2 ic_0 ?_
  refine A_istore_n d_244_3 ml_244 rfl rfl ?_
  obtain ⟨y1, M2, hl, hf⟩ := bnd_some hf
  refine t_Mo_cordsOf_l4 (fun hW => ?_)  fu _ _ _ hW  hl
  refine P_iload_n d_244_33 rfl ?_
  exact A_iret d_244_34 mr_244 hW hf k
def f_Mo_lamp (a1 : Int32) (a2 : Int32) (M : AM) : Option (Int32 × AM) :=
  bnd (f_Mo_isLamp a1 M) (fun r1 M2 => if r1 = 0 then some ((-1), M2) else swi a2 [(0, ald 5 M2 123 0 (fun x3 => some ((x3 >>> (a1 &&& 31)) &&& 1, M2))), (1, ald 8 M2 119 a1 (fun x4 => some (x4, M2))), (2, bnd (f_Mo_cordsOf a1 M2) (fun r5 M6 => some (r5, M6))), (3, ald 8 M2 120 a1 (fun x7 => some (x7, M2)))] (some ((-1), M2)))
set_option maxRecDepth 20000 in
theorem t_Mo_lamp {G : GT} {d : Nat} {a1 : Int32} {a2 : Int32} {M : AM} {Q : AM → Option Value → Prop} {r : Int32} {M' : AM} (hW : WT M)  (hf : f_Mo_lamp a1 a2 M = some (r, M')) (k : WT M' → Q M' (some (.int r)))  : Cal G (d + 2) 241 [.ref 105, .int a1, .int a2] M Q := by
  refine A_enter ml_241 rfl ?_
  refine P_aload_n d_241_0 rfl ?_
  refine P_iload_n d_241_1 rfl ?_
  refine A_V1 d_241_2 vk_241_402 ml_242 rfl k_105 hW rfl hf (fun r1 M2 hc hf => t_Mo_isLamp hW  hc (fun hW hb2 => ?_))
  refine A_if_ne (tgt := 10) d_241_5 rfl hf (fun hf => ?_) (fun hf => ?_)
  · refine P_iload_n d_241_10 rfl ?_
    refine A_tsw [0, 1, 2, 3] [40, 51, 58, 64] 71 d_241_11 rfl (by decide +kernel) hf (fun i A t h1 h2 hf => ?_) (fun hf => ?_)
    · match i, h1, h2 with
      | 0, h1, h2 =>
        have h3 := (Prod.mk.inj (Option.some.inj h1)).2
        have h4 := Option.some.inj h2
        subst h3; subst h4; clear h1 h2
        refine P_aload_n d_241_40 rfl ?_
        refine A_gF d_241_41 cn_241 fk_CordLoftModel_66 ft_13_50 k_105 hW ?_
        refine A_iconst d_241_44 ic_0 ?_
        refine A_iald d_241_45 k_123 l_123 hW hf (fun hf => ?_)
        refine P_iload_n d_241_46 rfl ?_
        refine P_ishr d_241_47 ?_
        refine A_iconst d_241_48 ic_1 ?_
        refine P_iand d_241_49 ?_
        exact A_iret d_241_50 mr_241 hW hf k
      | 1, h1, h2 =>
        have h3 := (Prod.mk.inj (Option.some.inj h1)).2
        have h4 := Option.some.inj h2
        subst h3; subst h4; clear h1 h2
        refine P_aload_n d_241_51 rfl ?_
        refine A_gF d_241_52 cn_241 fk_CordLoftModel_54 ft_13_31 k_105 hW ?_
        refine P_iload_n d_241_55 rfl ?_
        refine A_iald d_241_56 k_119 l_119 hW hf (fun hf => ?_)
        exact A_iret d_241_57 mr_241 hW hf k
      | 2, h1, h2 =>
        have h3 := (Prod.mk.inj (Option.some.inj h1)).2
        have h4 := Option.some.inj h2
        subst h3; subst h4; clear h1 h2
        refine P_aload_n d_241_58 rfl ?_
        refine P_iload_n d_241_59 rfl ?_
        refine A_V1 d_241_60 vk_241_293 ml_244 rfl k_105 hW rfl hf (fun r5 M6 hc hf => t_Mo_cordsOf hW  hc (fun hW => ?_))
        exact A_iret d_241_63 mr_241 hW hf k
      | 3, h1, h2 =>
        have h3 := (Prod.mk.inj (Option.some.inj h1)).2
        have h4 := Option.some.inj h2
        subst h3; subst h4; clear h1 h2
        refine P_aload_n d_241_64 rfl ?_
        refine A_gF d_241_65 cn_241 fk_CordLoftModel_57 ft_13_32 k_105 hW ?_
        refine P_iload_n d_241_68 rfl ?_
        refine A_iald d_241_69 k_120 l_120 hW hf (fun hf => ?_)
        exact A_iret d_241_70 mr_241 hW hf k
      | i + 4, h1, h2 => exact absurd h2 (by simp)
    · refine A_iconst d_241_71 ic_m1 ?_
      exact A_iret d_241_72 mr_241 hW hf k
  · refine A_iconst d_241_8 ic_m1 ?_
    exact A_iret d_241_9 mr_241 hW hf k
end
