noncomputable section
def f_Mo_isCord (a1 : Int32) (M : AM) : Option (Int32 × AM) :=
  bnd (f_Mo_isIn a1 0 ((gI M 105 42) - 1) M) (fun r1 M2 => some (r1, M2))
set_option maxRecDepth 20000 in
theorem t_Mo_isCord {G : GT} {d : Nat} {a1 : Int32} {M : AM} {Q : AM → Option Value → Prop} {r : Int32} {M' : AM} (hW : WT M)  (hf : f_Mo_isCord a1 M = some (r, M')) (k : WT M' → (r = 0 ∨ r = 1) → Q M' (some (.int r)))  : Cal G (d + 1) 246 [.ref 105, .int a1] M Q := by
  refine A_enter ml_246 rfl ?_
  refine P_iload_n d_246_0 rfl ?_
  refine A_iconst d_246_1 ic_0 ?_
  refine P_aload_n d_246_2 rfl ?_
  refine A_gI d_246_3 cn_246 fk_CordLoftModel_369 k_105 hW ?_
  refine A_iconst d_246_6 ic_1 ?_
  refine P_isub d_246_7 ?_
  refine A_S3 d_246_8 sk_246_399 ml_243 rfl rfl hf (fun r1 M2 hc hf => t_Mo_isIn hW  hc (fun hW hb2 => ?_))
  exact A_zret d_246_11 mr_246 hW hb2 hf k
def f_Mo_cord (a1 : Int32) (a2 : Int32) (M : AM) : Option (Int32 × AM) :=
  bnd (f_Mo_isCord a1 M) (fun r1 M2 => if r1 = 0 then some ((-1), M2) else if a2 = 0 then ald 8 M2 121 a1 (fun x5 => some (x5, M2)) else if a2 = 1 then ald 8 M2 122 a1 (fun x4 => some (x4, M2)) else if a2 = 2 then ald 5 M2 123 1 (fun x3 => some ((x3 >>> (a1 &&& 31)) &&& 1, M2)) else some ((-1), M2))
set_option maxRecDepth 20000 in
theorem t_Mo_cord {G : GT} {d : Nat} {a1 : Int32} {a2 : Int32} {M : AM} {Q : AM → Option Value → Prop} {r : Int32} {M' : AM} (hW : WT M)  (hf : f_Mo_cord a1 a2 M = some (r, M')) (k : WT M' → Q M' (some (.int r)))  : Cal G (d + 2) 245 [.ref 105, .int a1, .int a2] M Q := by
  refine A_enter ml_245 rfl ?_
  refine P_aload_n d_245_0 rfl ?_
  refine P_iload_n d_245_1 rfl ?_
  refine A_V1 d_245_2 vk_245_405 ml_246 rfl k_105 hW rfl hf (fun r1 M2 hc hf => t_Mo_isCord hW  hc (fun hW hb2 => ?_))
  refine A_if_ne (tgt := 12) d_245_5 rfl hf (fun hf => ?_) (fun hf => ?_)
  · refine P_iload_n d_245_12 rfl ?_
    refine A_if_ne (tgt := 25) d_245_13 rfl hf (fun hf => ?_) (fun hf => ?_)
    · refine P_iload_n d_245_25 rfl ?_
      refine A_iconst d_245_26 ic_1 ?_
      refine A_icmp_ne (tgt := 39) d_245_27 rfl hf (fun hf => ?_) (fun hf => ?_)
      · refine P_iload_n d_245_39 rfl ?_
        refine A_iconst d_245_40 ic_2 ?_
        refine A_icmp_ne (tgt := 57) d_245_41 rfl hf (fun hf => ?_) (fun hf => ?_)
        · refine A_iconst d_245_57 ic_m1 ?_
          exact A_iret d_245_58 mr_245 hW hf k
        · refine P_aload_n d_245_44 rfl ?_
          refine A_gF d_245_45 cn_245 fk_CordLoftModel_66 ft_13_50 k_105 hW ?_
          refine A_iconst d_245_48 ic_1 ?_
          refine A_iald d_245_49 k_123 l_123 hW hf (fun hf => ?_)
          refine P_iload_n d_245_50 rfl ?_
          refine P_ishr d_245_51 ?_
          refine A_iconst d_245_52 ic_1 ?_
          refine P_iand d_245_53 ?_
          refine P_goto (tgt := 58) d_245_54 rfl ?_
          exact A_iret d_245_58 mr_245 hW hf k
      · refine P_aload_n d_245_30 rfl ?_
        refine A_gF d_245_31 cn_245 fk_CordLoftModel_63 ft_13_34 k_105 hW ?_
        refine P_iload_n d_245_34 rfl ?_
        refine A_iald d_245_35 k_122 l_122 hW hf (fun hf => ?_)
        refine P_goto (tgt := 58) d_245_36 rfl ?_
        exact A_iret d_245_58 mr_245 hW hf k
    · refine P_aload_n d_245_16 rfl ?_
      refine A_gF d_245_17 cn_245 fk_CordLoftModel_60 ft_13_33 k_105 hW ?_
      refine P_iload_n d_245_20 rfl ?_
      refine A_iald d_245_21 k_121 l_121 hW hf (fun hf => ?_)
      refine P_goto (tgt := 58) d_245_22 rfl ?_
      exact A_iret d_245_58 mr_245 hW hf k
  · refine A_iconst d_245_8 ic_m1 ?_
    refine P_goto (tgt := 58) d_245_9 rfl ?_
    exact A_iret d_245_58 mr_245 hW hf k
def f_Mo_picture  (M : AM) : Option (Int32 × AM) :=
  ald 5 M 123 0 (fun x1 => some (x1, M))
set_option maxRecDepth 20000 in
theorem t_Mo_picture {G : GT} {d : Nat}  {M : AM} {Q : AM → Option Value → Prop} {r : Int32} {M' : AM} (hW : WT M)  (hf : f_Mo_picture  M = some (r, M')) (k : WT M' → Q M' (some (.int r)))  : Cal G d 247 [.ref 105] M Q := by
  refine A_enter ml_247 rfl ?_
  refine P_aload_n d_247_0 rfl ?_
  refine A_gF d_247_1 cn_247 fk_CordLoftModel_66 ft_13_50 k_105 hW ?_
  refine A_iconst d_247_4 ic_0 ?_
  refine A_iald d_247_5 k_123 l_123 hW hf (fun hf => ?_)
  exact A_iret d_247_6 mr_247 hW hf k
def f_Mo_isTied (a1 : Int32) (M : AM) : Option (Int32 × AM) :=
  ald 5 M 123 1 (fun x1 => bnd (f_Mo_has x1 a1 M) (fun r2 M3 => some (r2, M3)))
set_option maxRecDepth 20000 in
theorem t_Mo_isTied {G : GT} {d : Nat} {a1 : Int32} {M : AM} {Q : AM → Option Value → Prop} {r : Int32} {M' : AM} (hW : WT M)  (hf : f_Mo_isTied a1 M = some (r, M')) (k : WT M' → (r = 0 ∨ r = 1) → Q M' (some (.int r)))  : Cal G (d + 1) 249 [.ref 105, .int a1] M Q := by
  refine A_enter ml_249 rfl ?_
  refine P_aload_n d_249_0 rfl ?_
  refine A_gF d_249_1 cn_249 fk_CordLoftModel_66 ft_13_50 k_105 hW ?_
  refine A_iconst d_249_4 ic_1 ?_
  refine A_iald d_249_5 k_123 l_123 hW hf (fun hf => ?_)
  refine P_iload_n d_249_6 rfl ?_
  refine A_S2 d_249_7 sk_249_326 ml_225 rfl rfl hf (fun r2 M3 hc hf => t_Mo_has hW  hc (fun hW hb3 => ?_))
  exact A_zret d_249_10 mr_249 hW hb3 hf k
def f_Mo_members_b4 (rec : Int32 → Int32 → AM → Option (Int32 × AM)) (v0 : Int32) (v1 : Int32) (v2 : Int32) (M : AM) : Option (Int32 × AM) :=
  if 8 ≤ v2 then some (v1, M) else rec (v1 + ((v0 >>> (v2 &&& 31)) &&& 1)) (v2 + 1) M
def f_Mo_members_l4 (v0 : Int32) : Nat → Int32 → Int32 → AM → Option (Int32 × AM)
  | 0, _, _, _ => none
  | n + 1, v1, v2, M => f_Mo_members_b4 (f_Mo_members_l4 v0 n) v0 v1 v2 M
set_option maxRecDepth 20000 in
theorem t_Mo_members_b4 {G : GT} {d : Nat} {v0 : Int32} {v1 : Int32} {v2 : Int32} {M : AM} {Q : AM → Option Value → Prop} {yo : Int32} {Mo : AM} {rec : Int32 → Int32 → AM → Option (Int32 × AM)} (hrec : ∀ (v1 : Int32) (v2 : Int32) (M : AM), WT M → rec v1 v2 M = some (yo, Mo) → PW G d 250 4 [.int v0, .int v1, .int v2] [] M 0 0 Q) (k1 : WT Mo → PW G d 250 24 [ux, .int yo, ux] [] Mo 0 0 Q) (hW : WT M)   (hf : f_Mo_members_b4 rec v0 v1 v2 M = some (yo, Mo)) : PW G d 250 4 [.int v0, .int v1, .int v2] [] M 0 0 Q := by
  refine P_iload_n d_250_4 rfl ?_
  refine P_bipush d_250_5 bi_8 ?_
  refine A_icmp_ge (tgt := 24) d_250_7 rfl hf (fun hf => ?_) (fun hf => ?_)
  · refine P_fgt [false, true, false] ?_
    cases hf
    exact k1 hW 
  · refine P_iload_n d_250_10 rfl ?_
    refine P_iload_n d_250_11 rfl ?_
    refine P_iload_n d_250_12 rfl ?_
    refine P_ishr d_250_13 ?_
    refine A_iconst d_250_14 ic_1 ?_
    refine P_iand d_250_15 ?_
    refine P_iadd d_250_16 ?_
    refine A_istore_n d_250_17 ml_250 rfl rfl ?_
    refine A_iinc d_250_18 ic_1 rfl ml_250 rfl rfl ?_
    refine P_goto (tgt := 4) d_250_21 rfl ?_
    exact hrec _ _ _ hW  hf
theorem t_Mo_members_l4 {G : GT} {d : Nat} {v0 : Int32} {Q : AM → Option Value → Prop} {yo : Int32} {Mo : AM} (k1 : WT Mo → PW G d 250 24 [ux, .int yo, ux] [] Mo 0 0 Q)  : ∀ (z : Nat) (v1 : Int32) (v2 : Int32) (M : AM), WT M → f_Mo_members_l4 v0 z v1 v2 M = some (yo, Mo) → PW G d 250 4 [.int v0, .int v1, .int v2] [] M 0 0 Q := by
  intro z
  induction z with
  | zero => intro v1 v2 M hW hf; cases hf
  | succ z ih => intro v1 v2 M hW hf; exact t_Mo_members_b4 (fun v1 v2 M hW hf => ih v1 v2 M hW hf) k1 hW   hf
def f_Mo_members (a0 : Int32) (M : AM) : Option (Int32 × AM) :=
  bnd (f_Mo_members_l4 a0 fu 0 0 M) (fun y1 M2 => some (y1, M2))
set_option maxRecDepth 20000 in
theorem t_Mo_members {G : GT} {d : Nat} {a0 : Int32} {M : AM} {Q : AM → Option Value → Prop} {r : Int32} {M' : AM} (hW : WT M)  (hf : f_Mo_members a0 M = some (r, M')) (k : WT M' → Q M' (some (.int r)))  : Cal G d 250 [.int a0] M Q := by
  refine A_enter ml_250 rfl ?_
  refine A_iconst d_250_0 ic_0 ?_
  refine A_istore_n d_250_1 ml_250 rfl rfl ?_
  refine A_iconst d_250_2 ic_0 ?_
  refine A_istore_n d_250_3 ml_250 rfl rfl ?_
  obtain ⟨y1, M2, hl, hf⟩ := bnd_some hf
  refine t_Mo_members_l4 (fun hW => ?_)  fu _ _ _ hW  hl
  refine P_iload_n d_250_24 rfl ?_
  exact A_iret d_250_25 mr_250 hW hf k
def f_Mo_act_b50 (rec : Int32 → AM → Option (Unit × AM))  (v1 : Int32) (M : AM) : Option (Unit × AM) :=
  if 5 ≤ v1 then some ((), M) else ald 5 M 123 v1 (fun x1 => ast 200 M 124 ((5 * (gI M 105 52)) + v1) x1 (fun M2 => rec (v1 + 1) M2))
def f_Mo_act_l50  : Nat → Int32 → AM → Option (Unit × AM)
  | 0, _, _ => none
  | n + 1, v1, M => f_Mo_act_b50 (f_Mo_act_l50  n)  v1 M
set_option maxRecDepth 20000 in
theorem t_Mo_act_b50 {G : GT} {d : Nat}  {v1 : Int32} {M : AM} {Q : AM → Option Value → Prop} {yo : Unit} {Mo : AM} {rec : Int32 → AM → Option (Unit × AM)} (hrec : ∀ (v1 : Int32) (M : AM), WT M → rec v1 M = some (yo, Mo) → PW G d 251 50 [.ref 105, .int v1] [] M 0 0 Q) (k1 : WT Mo → PW G d 251 80 [.ref 105, ux] [] Mo 0 0 Q) (hW : WT M)   (hf : f_Mo_act_b50 rec  v1 M = some (yo, Mo)) : PW G d 251 50 [.ref 105, .int v1] [] M 0 0 Q := by
  refine P_iload_n d_251_50 rfl ?_
  refine A_iconst d_251_51 ic_5 ?_
  refine A_icmp_ge (tgt := 80) d_251_52 rfl hf (fun hf => ?_) (fun hf => ?_)
  · refine P_fgt [true, false] ?_
    cases hf
    exact k1 hW 
  · refine P_aload_n d_251_55 rfl ?_
    refine A_gF d_251_56 cn_251 fk_CordLoftModel_69 ft_13_51 k_105 hW ?_
    refine A_iconst d_251_59 ic_5 ?_
    refine P_aload_n d_251_60 rfl ?_
    refine A_gI d_251_61 cn_251 fk_CordLoftModel_387 k_105 hW ?_
    refine P_imul d_251_64 ?_
    refine P_iload_n d_251_65 rfl ?_
    refine P_iadd d_251_66 ?_
    refine P_aload_n d_251_67 rfl ?_
    refine A_gF d_251_68 cn_251 fk_CordLoftModel_66 ft_13_50 k_105 hW ?_
    refine P_iload_n d_251_71 rfl ?_
    refine A_iald d_251_72 k_123 l_123 hW hf (fun hf => ?_)
    refine A_iast d_251_73 k_124 l_124 hW hf (fun hW hf => ?_)
    refine A_iinc d_251_74 ic_1 rfl ml_251 rfl rfl ?_
    refine P_goto (tgt := 50) d_251_77 rfl ?_
    exact hrec _ _ hW  hf
theorem t_Mo_act_l50 {G : GT} {d : Nat}  {Q : AM → Option Value → Prop} {yo : Unit} {Mo : AM} (k1 : WT Mo → PW G d 251 80 [.ref 105, ux] [] Mo 0 0 Q)  : ∀ (z : Nat) (v1 : Int32) (M : AM), WT M → f_Mo_act_l50  z v1 M = some (yo, Mo) → PW G d 251 50 [.ref 105, .int v1] [] M 0 0 Q := by
  intro z
  induction z with
  | zero => intro v1 M hW hf; cases hf
  | succ z ih => intro v1 M hW hf; exact t_Mo_act_b50 (fun v1 M hW hf => ih v1 M hW hf) k1 hW   hf
def f_Mo_act_j48  (M : AM) : Option (Unit × AM) :=
  bnd (f_Mo_act_l50  fu 0 M) (fun y1 M2 => wI M2 105 52 ((gI M2 105 52) + 1) (fun M3 => wI M3 105 53 0 (fun M4 => some ((), M4))))
set_option maxRecDepth 20000 in
theorem t_Mo_act_j48 {G : GT} {d : Nat}  {M : AM} {Q : AM → Option Value → Prop} {r : Unit} {M' : AM} (k : WT M' → Q M' none) (hW : WT M)  (hf : f_Mo_act_j48  M = some (r, M')) : PW G d 251 48 [.ref 105, ux] [] M 0 0 Q := by
  refine A_iconst d_251_48 ic_0 ?_
  refine A_istore_n d_251_49 ml_251 rfl rfl ?_
  obtain ⟨y1, M2, hl, hf⟩ := bnd_some hf
  refine t_Mo_act_l50 (fun hW => ?_)  fu _ _ hW  hl
  refine P_aload_n d_251_80 rfl ?_
  refine P_dup d_251_81 rfl ?_
  refine A_gI d_251_82 cn_251 fk_CordLoftModel_387 k_105 hW ?_
  refine A_iconst d_251_85 ic_1 ?_
  refine P_iadd d_251_86 ?_
  refine A_pI d_251_87 cn_251 fp_CordLoftModel_387 k_105 hW hf (fun hW hf => ?_)
  refine P_aload_n d_251_90 rfl ?_
  refine A_iconst d_251_91 ic_0 ?_
  refine A_pI d_251_92 cn_251 fp_CordLoftModel_390 k_105 hW hf (fun hW hf => ?_)
  exact A_ret d_251_95 mr_251 hW hf k
def f_Mo_act_b11 (rec : Int32 → AM → Option (Unit × AM))  (v1 : Int32) (M : AM) : Option (Unit × AM) :=
  if 195 ≤ v1 then some ((), M) else ald 200 M 124 (5 + v1) (fun x1 => ast 200 M 124 v1 x1 (fun M2 => rec (v1 + 1) M2))
def f_Mo_act_l11  : Nat → Int32 → AM → Option (Unit × AM)
  | 0, _, _ => none
  | n + 1, v1, M => f_Mo_act_b11 (f_Mo_act_l11  n)  v1 M
set_option maxRecDepth 20000 in
theorem t_Mo_act_b11 {G : GT} {d : Nat}  {v1 : Int32} {M : AM} {Q : AM → Option Value → Prop} {yo : Unit} {Mo : AM} {rec : Int32 → AM → Option (Unit × AM)} (hrec : ∀ (v1 : Int32) (M : AM), WT M → rec v1 M = some (yo, Mo) → PW G d 251 11 [.ref 105, .int v1] [] M 0 0 Q) (k1 : WT Mo → PW G d 251 38 [.ref 105, ux] [] Mo 0 0 Q) (hW : WT M)   (hf : f_Mo_act_b11 rec  v1 M = some (yo, Mo)) : PW G d 251 11 [.ref 105, .int v1] [] M 0 0 Q := by
  refine P_iload_n d_251_11 rfl ?_
  refine P_sipush d_251_12 si_195 ?_
  refine A_icmp_ge (tgt := 38) d_251_15 rfl hf (fun hf => ?_) (fun hf => ?_)
  · refine P_fgt [true, false] ?_
    cases hf
    exact k1 hW 
  · refine P_aload_n d_251_18 rfl ?_
    refine A_gF d_251_19 cn_251 fk_CordLoftModel_69 ft_13_51 k_105 hW ?_
    refine P_iload_n d_251_22 rfl ?_
    refine P_aload_n d_251_23 rfl ?_
    refine A_gF d_251_24 cn_251 fk_CordLoftModel_69 ft_13_51 k_105 hW ?_
    refine A_iconst d_251_27 ic_5 ?_
    refine P_iload_n d_251_28 rfl ?_
    refine P_iadd d_251_29 ?_
    refine A_iald d_251_30 k_124 l_124 hW hf (fun hf => ?_)
    refine A_iast d_251_31 k_124 l_124 hW hf (fun hW hf => ?_)
    refine A_iinc d_251_32 ic_1 rfl ml_251 rfl rfl ?_
    refine P_goto (tgt := 11) d_251_35 rfl ?_
    exact hrec _ _ hW  hf
theorem t_Mo_act_l11 {G : GT} {d : Nat}  {Q : AM → Option Value → Prop} {yo : Unit} {Mo : AM} (k1 : WT Mo → PW G d 251 38 [.ref 105, ux] [] Mo 0 0 Q)  : ∀ (z : Nat) (v1 : Int32) (M : AM), WT M → f_Mo_act_l11  z v1 M = some (yo, Mo) → PW G d 251 11 [.ref 105, .int v1] [] M 0 0 Q := by
  intro z
  induction z with
  | zero => intro v1 M hW hf; cases hf
  | succ z ih => intro v1 M hW hf; exact t_Mo_act_b11 (fun v1 M hW hf => ih v1 M hW hf) k1 hW   hf
def f_Mo_act  (M : AM) : Option (Unit × AM) :=
  if (gI M 105 52) = 40 then bnd (f_Mo_act_l11  fu 0 M) (fun y1 M2 => wI M2 105 52 ((gI M2 105 52) - 1) (fun M3 => f_Mo_act_j48  M3)) else f_Mo_act_j48  M
set_option maxRecDepth 20000 in
theorem t_Mo_act {G : GT} {d : Nat}  {M : AM} {Q : AM → Option Value → Prop} {r : Unit} {M' : AM} (hW : WT M)  (hf : f_Mo_act  M = some (r, M')) (k : WT M' → Q M' none)  : Cal G d 251 [.ref 105] M Q := by
  refine A_enter ml_251 rfl ?_
  refine P_aload_n d_251_0 rfl ?_
  refine A_gI d_251_1 cn_251 fk_CordLoftModel_387 k_105 hW ?_
  refine P_bipush d_251_4 bi_40 ?_
  refine A_icmp_ne (tgt := 48) d_251_6 rfl hf (fun hf => ?_) (fun hf => ?_)
  · exact t_Mo_act_j48 k hW  hf
  · refine A_iconst d_251_9 ic_0 ?_
    refine A_istore_n d_251_10 ml_251 rfl rfl ?_
    obtain ⟨y1, M2, hl, hf⟩ := bnd_some hf
    refine t_Mo_act_l11 (fun hW => ?_)  fu _ _ hW  hl
    refine P_aload_n d_251_38 rfl ?_
    refine P_dup d_251_39 rfl ?_
    refine A_gI d_251_40 cn_251 fk_CordLoftModel_387 k_105 hW ?_
    refine A_iconst d_251_43 ic_1 ?_
    refine P_isub d_251_44 ?_
    refine A_pI d_251_45 cn_251 fp_CordLoftModel_387 k_105 hW hf (fun hW hf => ?_)
    exact t_Mo_act_j48 k hW  hf
def f_Mo_pull (a1 : Int32) (M : AM) : Option (Int32 × AM) :=
  bnd (f_Mo_isCord a1 M) (fun r1 M2 => if r1 = 0 then some ((-1), M2) else bnd (f_Mo_isTied a1 M2) (fun r3 M4 => if r3 = 0 then ald 5 M4 123 0 (fun x5 => ald 8 M4 121 a1 (fun x6 => bnd (f_Mo_members (x5 ^^^ x6) M4) (fun r7 M8 => if (gI M8 105 44) ≤ r7 then bnd (f_Mo_act  M8) (fun r9 M10 => ald 5 M10 123 0 (fun x11 => ald 8 M10 121 a1 (fun x12 => ast 5 M10 123 0 (x11 ^^^ x12) (fun M13 => ald 5 M13 123 2 (fun x14 => ald 8 M13 122 a1 (fun x15 => ast 5 M13 123 2 (x14 + x15) (fun M16 => ald 5 M16 123 0 (fun x17 => some (x17, M16))))))))) else some ((-1), M8)))) else some ((-1), M4)))
set_option maxRecDepth 20000 in
theorem t_Mo_pull {G : GT} {d : Nat} {a1 : Int32} {M : AM} {Q : AM → Option Value → Prop} {r : Int32} {M' : AM} (hW : WT M)  (hf : f_Mo_pull a1 M = some (r, M')) (k : WT M' → Q M' (some (.int r)))  : Cal G (d + 2) 248 [.ref 105, .int a1] M Q := by
  refine A_enter ml_248 rfl ?_
  refine P_aload_n d_248_0 rfl ?_
  refine P_iload_n d_248_1 rfl ?_
  refine A_V1 d_248_2 vk_248_405 ml_246 rfl k_105 hW rfl hf (fun r1 M2 hc hf => t_Mo_isCord hW  hc (fun hW hb2 => ?_))
  refine A_if_eq (tgt := 39) d_248_5 rfl hf (fun hf => ?_) (fun hf => ?_)
  · refine A_iconst d_248_39 ic_m1 ?_
    exact A_iret d_248_40 mr_248 hW hf k
  · refine P_aload_n d_248_8 rfl ?_
    refine P_iload_n d_248_9 rfl ?_
    refine A_V1 d_248_10 vk_248_408 ml_249 rfl k_105 hW rfl hf (fun r3 M4 hc hf => t_Mo_isTied hW  hc (fun hW hb4 => ?_))
    refine A_if_ne (tgt := 39) d_248_13 rfl hf (fun hf => ?_) (fun hf => ?_)
    · refine A_iconst d_248_39 ic_m1 ?_
      exact A_iret d_248_40 mr_248 hW hf k
    · refine P_aload_n d_248_16 rfl ?_
      refine A_gF d_248_17 cn_248 fk_CordLoftModel_66 ft_13_50 k_105 hW ?_
      refine A_iconst d_248_20 ic_0 ?_
      refine A_iald d_248_21 k_123 l_123 hW hf (fun hf => ?_)
      refine P_aload_n d_248_22 rfl ?_
      refine A_gF d_248_23 cn_248 fk_CordLoftModel_60 ft_13_33 k_105 hW ?_
      refine P_iload_n d_248_26 rfl ?_
      refine A_iald d_248_27 k_121 l_121 hW hf (fun hf => ?_)
      refine P_ixor d_248_28 ?_
      refine A_S1 d_248_29 sk_248_290 ml_250 rfl rfl hf (fun r7 M8 hc hf => t_Mo_members hW  hc (fun hW => ?_))
      refine P_aload_n d_248_32 rfl ?_
      refine A_gI d_248_33 cn_248 fk_CordLoftModel_375 k_105 hW ?_
      refine A_icmp_ge (tgt := 41) d_248_36 rfl hf (fun hf => ?_) (fun hf => ?_)
      · refine P_aload_n d_248_41 rfl ?_
        refine A_V0 d_248_42 vk_248_411 ml_251 rfl k_105 hW rfl hf (fun r9 M10 hc hf => t_Mo_act hW  hc (fun hW => ?_))
        refine P_aload_n d_248_45 rfl ?_
        refine A_gF d_248_46 cn_248 fk_CordLoftModel_66 ft_13_50 k_105 hW ?_
        refine A_iconst d_248_49 ic_0 ?_
        refine P_dup2 d_248_50 rfl rfl ?_
        refine A_iald d_248_51 k_123 l_123 hW hf (fun hf => ?_)
        refine P_aload_n d_248_52 rfl ?_
        refine A_gF d_248_53 cn_248 fk_CordLoftModel_60 ft_13_33 k_105 hW ?_
        refine P_iload_n d_248_56 rfl ?_
        refine A_iald d_248_57 k_121 l_121 hW hf (fun hf => ?_)
        refine P_ixor d_248_58 ?_
        refine A_iast d_248_59 k_123 l_123 hW hf (fun hW hf => ?_)
        refine P_aload_n d_248_60 rfl ?_
        refine A_gF d_248_61 cn_248 fk_CordLoftModel_66 ft_13_50 k_105 hW ?_
        refine A_iconst d_248_64 ic_2 ?_
        refine P_dup2 d_248_65 rfl rfl ?_
        refine A_iald d_248_66 k_123 l_123 hW hf (fun hf => ?_)
        refine P_aload_n d_248_67 rfl ?_
        refine A_gF d_248_68 cn_248 fk_CordLoftModel_63 ft_13_34 k_105 hW ?_
        refine P_iload_n d_248_71 rfl ?_
        refine A_iald d_248_72 k_122 l_122 hW hf (fun hf => ?_)
        refine P_iadd d_248_73 ?_
        refine A_iast d_248_74 k_123 l_123 hW hf (fun hW hf => ?_)
        refine P_aload_n d_248_75 rfl ?_
        refine A_gF d_248_76 cn_248 fk_CordLoftModel_66 ft_13_50 k_105 hW ?_
        refine A_iconst d_248_79 ic_0 ?_
        refine A_iald d_248_80 k_123 l_123 hW hf (fun hf => ?_)
        exact A_iret d_248_81 mr_248 hW hf k
      · refine A_iconst d_248_39 ic_m1 ?_
        exact A_iret d_248_40 mr_248 hW hf k
def f_Mo_turnTie (a1 : Int32) (M : AM) : Option (Int32 × AM) :=
  bnd (f_Mo_act  M) (fun r1 M2 => ald 5 M2 123 1 (fun x3 => ast 5 M2 123 1 (x3 ^^^ ((1 : Int32) <<< (a1 &&& 31))) (fun M4 => ald 5 M4 123 1 (fun x5 => some (x5, M4)))))
set_option maxRecDepth 20000 in
theorem t_Mo_turnTie {G : GT} {d : Nat} {a1 : Int32} {M : AM} {Q : AM → Option Value → Prop} {r : Int32} {M' : AM} (hW : WT M)  (hf : f_Mo_turnTie a1 M = some (r, M')) (k : WT M' → Q M' (some (.int r)))  : Cal G (d + 1) 253 [.ref 105, .int a1] M Q := by
  refine A_enter ml_253 rfl ?_
  refine P_aload_n d_253_0 rfl ?_
  refine A_V0 d_253_1 vk_253_411 ml_251 rfl k_105 hW rfl hf (fun r1 M2 hc hf => t_Mo_act hW  hc (fun hW => ?_))
  refine P_aload_n d_253_4 rfl ?_
  refine A_gF d_253_5 cn_253 fk_CordLoftModel_66 ft_13_50 k_105 hW ?_
  refine A_iconst d_253_8 ic_1 ?_
  refine P_dup2 d_253_9 rfl rfl ?_
  refine A_iald d_253_10 k_123 l_123 hW hf (fun hf => ?_)
  refine A_iconst d_253_11 ic_1 ?_
  refine P_iload_n d_253_12 rfl ?_
  refine P_ishl d_253_13 ?_
  refine P_ixor d_253_14 ?_
  refine A_iast d_253_15 k_123 l_123 hW hf (fun hW hf => ?_)
  refine P_aload_n d_253_16 rfl ?_
  refine A_gF d_253_17 cn_253 fk_CordLoftModel_66 ft_13_50 k_105 hW ?_
  refine A_iconst d_253_20 ic_1 ?_
  refine A_iald d_253_21 k_123 l_123 hW hf (fun hf => ?_)
  exact A_iret d_253_22 mr_253 hW hf k
def f_Mo_tie (a1 : Int32) (M : AM) : Option (Int32 × AM) :=
  bnd (f_Mo_isCord a1 M) (fun r1 M2 => if r1 = 0 then some ((-1), M2) else bnd (f_Mo_isTied a1 M2) (fun r3 M4 => if r3 = 0 then bnd (f_Mo_turnTie a1 M4) (fun r5 M6 => some (r5, M6)) else some ((-1), M4)))
set_option maxRecDepth 20000 in
theorem t_Mo_tie {G : GT} {d : Nat} {a1 : Int32} {M : AM} {Q : AM → Option Value → Prop} {r : Int32} {M' : AM} (hW : WT M)  (hf : f_Mo_tie a1 M = some (r, M')) (k : WT M' → Q M' (some (.int r)))  : Cal G (d + 2) 252 [.ref 105, .int a1] M Q := by
  refine A_enter ml_252 rfl ?_
  refine P_aload_n d_252_0 rfl ?_
  refine P_iload_n d_252_1 rfl ?_
  refine A_V1 d_252_2 vk_252_405 ml_246 rfl k_105 hW rfl hf (fun r1 M2 hc hf => t_Mo_isCord hW  hc (fun hW hb2 => ?_))
  refine A_if_eq (tgt := 24) d_252_5 rfl hf (fun hf => ?_) (fun hf => ?_)
  · refine A_iconst d_252_24 ic_m1 ?_
    exact A_iret d_252_25 mr_252 hW hf k
  · refine P_aload_n d_252_8 rfl ?_
    refine P_iload_n d_252_9 rfl ?_
    refine A_V1 d_252_10 vk_252_408 ml_249 rfl k_105 hW rfl hf (fun r3 M4 hc hf => t_Mo_isTied hW  hc (fun hW hb4 => ?_))
    refine A_if_ne (tgt := 24) d_252_13 rfl hf (fun hf => ?_) (fun hf => ?_)
    · refine A_iconst d_252_24 ic_m1 ?_
      exact A_iret d_252_25 mr_252 hW hf k
    · refine P_aload_n d_252_16 rfl ?_
      refine P_iload_n d_252_17 rfl ?_
      refine A_V1 d_252_18 vk_252_414 ml_253 rfl k_105 hW rfl hf (fun r5 M6 hc hf => t_Mo_turnTie hW  hc (fun hW => ?_))
      refine P_goto (tgt := 25) d_252_21 rfl ?_
      exact A_iret d_252_25 mr_252 hW hf k
def f_Mo_loose (a1 : Int32) (M : AM) : Option (Int32 × AM) :=
  bnd (f_Mo_isCord a1 M) (fun r1 M2 => if r1 = 0 then some ((-1), M2) else bnd (f_Mo_isTied a1 M2) (fun r3 M4 => if r3 = 0 then some ((-1), M4) else bnd (f_Mo_turnTie a1 M4) (fun r5 M6 => some (r5, M6))))
set_option maxRecDepth 20000 in
theorem t_Mo_loose {G : GT} {d : Nat} {a1 : Int32} {M : AM} {Q : AM → Option Value → Prop} {r : Int32} {M' : AM} (hW : WT M)  (hf : f_Mo_loose a1 M = some (r, M')) (k : WT M' → Q M' (some (.int r)))  : Cal G (d + 2) 254 [.ref 105, .int a1] M Q := by
  refine A_enter ml_254 rfl ?_
  refine P_aload_n d_254_0 rfl ?_
  refine P_iload_n d_254_1 rfl ?_
  refine A_V1 d_254_2 vk_254_405 ml_246 rfl k_105 hW rfl hf (fun r1 M2 hc hf => t_Mo_isCord hW  hc (fun hW hb2 => ?_))
  refine A_if_eq (tgt := 24) d_254_5 rfl hf (fun hf => ?_) (fun hf => ?_)
  · refine A_iconst d_254_24 ic_m1 ?_
    exact A_iret d_254_25 mr_254 hW hf k
  · refine P_aload_n d_254_8 rfl ?_
    refine P_iload_n d_254_9 rfl ?_
    refine A_V1 d_254_10 vk_254_408 ml_249 rfl k_105 hW rfl hf (fun r3 M4 hc hf => t_Mo_isTied hW  hc (fun hW hb4 => ?_))
    refine A_if_eq (tgt := 24) d_254_13 rfl hf (fun hf => ?_) (fun hf => ?_)
    · refine A_iconst d_254_24 ic_m1 ?_
      exact A_iret d_254_25 mr_254 hW hf k
    · refine P_aload_n d_254_16 rfl ?_
      refine P_iload_n d_254_17 rfl ?_
      refine A_V1 d_254_18 vk_254_414 ml_253 rfl k_105 hW rfl hf (fun r5 M6 hc hf => t_Mo_turnTie hW  hc (fun hW => ?_))
      refine P_goto (tgt := 25) d_254_21 rfl ?_
      exact A_iret d_254_25 mr_254 hW hf k
def f_Mo_truth (a0 : Int32) (M : AM) : Option (Int32 × AM) :=
  if a0 = 0 then some (0, M) else some (1, M)
set_option maxRecDepth 20000 in
theorem t_Mo_truth {G : GT} {d : Nat} {a0 : Int32} {M : AM} {Q : AM → Option Value → Prop} {r : Int32} {M' : AM} (hW : WT M)  (hf : f_Mo_truth a0 M = some (r, M')) (k : WT M' → Q M' (some (.int r)))  : Cal G d 259 [.int a0] M Q := by
  refine A_enter ml_259 rfl ?_
  refine P_iload_n d_259_0 rfl ?_
  refine A_if_eq (tgt := 8) d_259_1 rfl hf (fun hf => ?_) (fun hf => ?_)
  · refine A_iconst d_259_8 ic_0 ?_
    exact A_iret d_259_9 mr_259 hW hf k
  · refine A_iconst d_259_4 ic_1 ?_
    refine P_goto (tgt := 9) d_259_5 rfl ?_
    exact A_iret d_259_9 mr_259 hW hf k
def f_Mo_done_j228 (s0 : Int32) (M : AM) : Option (Int32 × AM) :=
  bnd (f_Mo_truth s0 M) (fun r1 M2 => some (r1, M2))
set_option maxRecDepth 20000 in
theorem t_Mo_done_j228 {G : GT} {d : Nat} {s0 : Int32} {M : AM} {Q : AM → Option Value → Prop} {r : Int32} {M' : AM} (k : WT M' → Q M' (some (.int r))) (hW : WT M)  (hf : f_Mo_done_j228 s0 M = some (r, M')) : PW G (d + 1) 260 228 [ux, ux, ux] [.int s0] M 0 0 Q := by
  refine A_S1 d_260_228 sk_260_283 ml_259 rfl rfl hf (fun r1 M2 hc hf => t_Mo_truth hW  hc (fun hW => ?_))
  exact A_iret d_260_231 mr_260 hW hf k
def f_Mo_done_j223  (M : AM) : Option (Int32 × AM) :=
  f_Mo_done_j228 1 M
set_option maxRecDepth 20000 in
theorem t_Mo_done_j223 {G : GT} {d : Nat}  {M : AM} {Q : AM → Option Value → Prop} {r : Int32} {M' : AM} (k : WT M' → Q M' (some (.int r))) (hW : WT M)  (hf : f_Mo_done_j223  M = some (r, M')) : PW G (d + 1) 260 223 [ux, ux, ux] [] M 0 0 Q := by
  refine A_iconst d_260_223 ic_1 ?_
  refine P_goto (tgt := 228) d_260_224 rfl ?_
  exact t_Mo_done_j228 k hW  hf
def f_Mo_done_j215 (v1 : Int32) (v2 : Int32) (M : AM) : Option (Int32 × AM) :=
  if v1 = 0 then if v2 = 0 then f_Mo_done_j228 0 M else f_Mo_done_j223  M else f_Mo_done_j223  M
set_option maxRecDepth 20000 in
theorem t_Mo_done_j215 {G : GT} {d : Nat} {v1 : Int32} {v2 : Int32} {M : AM} {Q : AM → Option Value → Prop} {r : Int32} {M' : AM} (k : WT M' → Q M' (some (.int r))) (hW : WT M)  (hf : f_Mo_done_j215 v1 v2 M = some (r, M')) : PW G (d + 1) 260 215 [ux, .int v1, .int v2] [] M 0 0 Q := by
  refine P_iload_n d_260_215 rfl ?_
  refine A_if_ne (tgt := 223) d_260_216 rfl hf (fun hf => ?_) (fun hf => ?_)
  · refine P_fgt [false, false, false] ?_
    exact t_Mo_done_j223 k hW  hf
  · refine P_iload_n d_260_219 rfl ?_
    refine A_if_eq (tgt := 227) d_260_220 rfl hf (fun hf => ?_) (fun hf => ?_)
    · refine A_iconst d_260_227 ic_0 ?_
      refine P_fgt [false, false, false] ?_
      exact t_Mo_done_j228 k hW  hf
    · refine P_fgt [false, false, false] ?_
      exact t_Mo_done_j223 k hW  hf
def f_Mo_done_j211 (s0 : Int32) (M : AM) : Option (Int32 × AM) :=
  bnd (f_Mo_truth s0 M) (fun r1 M2 => some (r1, M2))
set_option maxRecDepth 20000 in
theorem t_Mo_done_j211 {G : GT} {d : Nat} {s0 : Int32} {M : AM} {Q : AM → Option Value → Prop} {r : Int32} {M' : AM} (k : WT M' → Q M' (some (.int r))) (hW : WT M)  (hf : f_Mo_done_j211 s0 M = some (r, M')) : PW G (d + 1) 260 211 [ux, ux, ux] [.int s0] M 0 0 Q := by
  refine A_S1 d_260_211 sk_260_283 ml_259 rfl rfl hf (fun r1 M2 hc hf => t_Mo_truth hW  hc (fun hW => ?_))
  exact A_iret d_260_214 mr_260 hW hf k
def f_Mo_done_j210  (M : AM) : Option (Int32 × AM) :=
  f_Mo_done_j211 0 M
set_option maxRecDepth 20000 in
theorem t_Mo_done_j210 {G : GT} {d : Nat}  {M : AM} {Q : AM → Option Value → Prop} {r : Int32} {M' : AM} (k : WT M' → Q M' (some (.int r))) (hW : WT M)  (hf : f_Mo_done_j210  M = some (r, M')) : PW G (d + 1) 260 210 [ux, ux, ux] [] M 0 0 Q := by
  refine A_iconst d_260_210 ic_0 ?_
  exact t_Mo_done_j211 k hW  hf
def f_Mo_done_j194 (s0 : Int32) (M : AM) : Option (Int32 × AM) :=
  bnd (f_Mo_truth s0 M) (fun r1 M2 => some (r1, M2))
set_option maxRecDepth 20000 in
theorem t_Mo_done_j194 {G : GT} {d : Nat} {s0 : Int32} {M : AM} {Q : AM → Option Value → Prop} {r : Int32} {M' : AM} (k : WT M' → Q M' (some (.int r))) (hW : WT M)  (hf : f_Mo_done_j194 s0 M = some (r, M')) : PW G (d + 1) 260 194 [ux, ux, ux] [.int s0] M 0 0 Q := by
  refine A_S1 d_260_194 sk_260_283 ml_259 rfl rfl hf (fun r1 M2 hc hf => t_Mo_truth hW  hc (fun hW => ?_))
  exact A_iret d_260_197 mr_260 hW hf k
def f_Mo_done_j180 (s0 : Int32) (M : AM) : Option (Int32 × AM) :=
  bnd (f_Mo_truth s0 M) (fun r1 M2 => some (r1, M2))
set_option maxRecDepth 20000 in
theorem t_Mo_done_j180 {G : GT} {d : Nat} {s0 : Int32} {M : AM} {Q : AM → Option Value → Prop} {r : Int32} {M' : AM} (k : WT M' → Q M' (some (.int r))) (hW : WT M)  (hf : f_Mo_done_j180 s0 M = some (r, M')) : PW G (d + 1) 260 180 [ux, ux, ux] [.int s0] M 0 0 Q := by
  refine A_S1 d_260_180 sk_260_283 ml_259 rfl rfl hf (fun r1 M2 hc hf => t_Mo_truth hW  hc (fun hW => ?_))
  exact A_iret d_260_183 mr_260 hW hf k
def f_Mo_done_j166 (s0 : Int32) (M : AM) : Option (Int32 × AM) :=
  bnd (f_Mo_truth s0 M) (fun r1 M2 => some (r1, M2))
set_option maxRecDepth 20000 in
theorem t_Mo_done_j166 {G : GT} {d : Nat} {s0 : Int32} {M : AM} {Q : AM → Option Value → Prop} {r : Int32} {M' : AM} (k : WT M' → Q M' (some (.int r))) (hW : WT M)  (hf : f_Mo_done_j166 s0 M = some (r, M')) : PW G (d + 1) 260 166 [ux, ux, ux] [.int s0] M 0 0 Q := by
  refine A_S1 d_260_166 sk_260_283 ml_259 rfl rfl hf (fun r1 M2 hc hf => t_Mo_truth hW  hc (fun hW => ?_))
  exact A_iret d_260_169 mr_260 hW hf k
def f_Mo_done (a0 : Int32) (a1 : Int32) (a2 : Int32) (M : AM) : Option (Int32 × AM) :=
  swi a0 [(37, if a2 = 0 then some (0, M) else dvz a2 (some (a1 % a2, M))), (38, if a1 = 0 then f_Mo_done_j210  M else if a2 = 0 then f_Mo_done_j210  M else f_Mo_done_j211 1 M), (39, f_Mo_done_j215 a1 a2 M), (40, f_Mo_done_j215 a1 a2 M), (41, f_Mo_done_j215 a1 a2 M), (42, some (a1 * a2, M)), (43, some (a1 + a2, M)), (44, f_Mo_done_j215 a1 a2 M), (45, some (a1 - a2, M)), (46, f_Mo_done_j215 a1 a2 M), (47, if a2 = 0 then some (0, M) else dvz a2 (some (a1 / a2, M))), (48, f_Mo_done_j215 a1 a2 M), (49, f_Mo_done_j215 a1 a2 M), (50, f_Mo_done_j215 a1 a2 M), (51, f_Mo_done_j215 a1 a2 M), (52, f_Mo_done_j215 a1 a2 M), (53, f_Mo_done_j215 a1 a2 M), (54, f_Mo_done_j215 a1 a2 M), (55, f_Mo_done_j215 a1 a2 M), (56, f_Mo_done_j215 a1 a2 M), (57, f_Mo_done_j215 a1 a2 M), (58, f_Mo_done_j215 a1 a2 M), (59, f_Mo_done_j215 a1 a2 M), (60, if a2 ≤ a1 then f_Mo_done_j166 0 M else f_Mo_done_j166 1 M), (61, if a1 = a2 then f_Mo_done_j194 1 M else f_Mo_done_j194 0 M), (62, if a1 ≤ a2 then f_Mo_done_j180 0 M else f_Mo_done_j180 1 M)] (f_Mo_done_j215 a1 a2 M)
set_option maxRecDepth 20000 in
theorem t_Mo_done {G : GT} {d : Nat} {a0 : Int32} {a1 : Int32} {a2 : Int32} {M : AM} {Q : AM → Option Value → Prop} {r : Int32} {M' : AM} (hW : WT M)  (hf : f_Mo_done a0 a1 a2 M = some (r, M')) (k : WT M' → Q M' (some (.int r)))  : Cal G (d + 1) 260 [.int a0, .int a1, .int a2] M Q := by
  refine A_enter ml_260 rfl ?_
  refine P_iload_n d_260_0 rfl ?_
  refine A_tsw [37, 38, 39, 40, 41, 42, 43, 44, 45, 46, 47, 48, 49, 50, 51, 52, 53, 54, 55, 56, 57, 58, 59, 60, 61, 62] [144, 198, 215, 215, 215, 128, 120, 215, 124, 215, 132, 215, 215, 215, 215, 215, 215, 215, 215, 215, 215, 215, 215, 156, 184, 170] 215 d_260_1 rfl (by decide +kernel) hf (fun i A t h1 h2 hf => ?_) (fun hf => ?_)
  · match i, h1, h2 with
    | 0, h1, h2 =>
      have h3 := (Prod.mk.inj (Option.some.inj h1)).2
      have h4 := Option.some.inj h2
      subst h3; subst h4; clear h1 h2
      refine P_iload_n d_260_144 rfl ?_
      refine A_if_ne (tgt := 152) d_260_145 rfl hf (fun hf => ?_) (fun hf => ?_)
      · refine P_iload_n d_260_152 rfl ?_
        refine P_iload_n d_260_153 rfl ?_
        refine A_irem d_260_154 hf (fun hf => ?_)
        exact A_iret d_260_155 mr_260 hW hf k
      · refine A_iconst d_260_148 ic_0 ?_
        refine P_goto (tgt := 155) d_260_149 rfl ?_
        exact A_iret d_260_155 mr_260 hW hf k
    | 1, h1, h2 =>
      have h3 := (Prod.mk.inj (Option.some.inj h1)).2
      have h4 := Option.some.inj h2
      subst h3; subst h4; clear h1 h2
      refine P_iload_n d_260_198 rfl ?_
      refine A_if_eq (tgt := 210) d_260_199 rfl hf (fun hf => ?_) (fun hf => ?_)
      · refine P_fgt [false, false, false] ?_
        exact t_Mo_done_j210 k hW  hf
      · refine P_iload_n d_260_202 rfl ?_
        refine A_if_eq (tgt := 210) d_260_203 rfl hf (fun hf => ?_) (fun hf => ?_)
        · refine P_fgt [false, false, false] ?_
          exact t_Mo_done_j210 k hW  hf
        · refine A_iconst d_260_206 ic_1 ?_
          refine P_goto (tgt := 211) d_260_207 rfl ?_
          refine P_fgt [false, false, false] ?_
          exact t_Mo_done_j211 k hW  hf
    | 2, h1, h2 =>
      have h3 := (Prod.mk.inj (Option.some.inj h1)).2
      have h4 := Option.some.inj h2
      subst h3; subst h4; clear h1 h2
      refine P_fgt [false, true, true] ?_
      exact t_Mo_done_j215 k hW  hf
    | 3, h1, h2 =>
      have h3 := (Prod.mk.inj (Option.some.inj h1)).2
      have h4 := Option.some.inj h2
      subst h3; subst h4; clear h1 h2
      refine P_fgt [false, true, true] ?_
      exact t_Mo_done_j215 k hW  hf
    | 4, h1, h2 =>
      have h3 := (Prod.mk.inj (Option.some.inj h1)).2
      have h4 := Option.some.inj h2
      subst h3; subst h4; clear h1 h2
      refine P_fgt [false, true, true] ?_
      exact t_Mo_done_j215 k hW  hf
    | 5, h1, h2 =>
      have h3 := (Prod.mk.inj (Option.some.inj h1)).2
      have h4 := Option.some.inj h2
      subst h3; subst h4; clear h1 h2
      refine P_iload_n d_260_128 rfl ?_
      refine P_iload_n d_260_129 rfl ?_
      refine P_imul d_260_130 ?_
      exact A_iret d_260_131 mr_260 hW hf k
    | 6, h1, h2 =>
      have h3 := (Prod.mk.inj (Option.some.inj h1)).2
      have h4 := Option.some.inj h2
      subst h3; subst h4; clear h1 h2
      refine P_iload_n d_260_120 rfl ?_
      refine P_iload_n d_260_121 rfl ?_
      refine P_iadd d_260_122 ?_
      exact A_iret d_260_123 mr_260 hW hf k
    | 7, h1, h2 =>
      have h3 := (Prod.mk.inj (Option.some.inj h1)).2
      have h4 := Option.some.inj h2
      subst h3; subst h4; clear h1 h2
      refine P_fgt [false, true, true] ?_
      exact t_Mo_done_j215 k hW  hf
    | 8, h1, h2 =>
      have h3 := (Prod.mk.inj (Option.some.inj h1)).2
      have h4 := Option.some.inj h2
      subst h3; subst h4; clear h1 h2
      refine P_iload_n d_260_124 rfl ?_
      refine P_iload_n d_260_125 rfl ?_
      refine P_isub d_260_126 ?_
      exact A_iret d_260_127 mr_260 hW hf k
    | 9, h1, h2 =>
      have h3 := (Prod.mk.inj (Option.some.inj h1)).2
      have h4 := Option.some.inj h2
      subst h3; subst h4; clear h1 h2
      refine P_fgt [false, true, true] ?_
      exact t_Mo_done_j215 k hW  hf
    | 10, h1, h2 =>
      have h3 := (Prod.mk.inj (Option.some.inj h1)).2
      have h4 := Option.some.inj h2
      subst h3; subst h4; clear h1 h2
      refine P_iload_n d_260_132 rfl ?_
      refine A_if_ne (tgt := 140) d_260_133 rfl hf (fun hf => ?_) (fun hf => ?_)
      · refine P_iload_n d_260_140 rfl ?_
        refine P_iload_n d_260_141 rfl ?_
        refine A_idiv d_260_142 hf (fun hf => ?_)
        exact A_iret d_260_143 mr_260 hW hf k
      · refine A_iconst d_260_136 ic_0 ?_
        refine P_goto (tgt := 143) d_260_137 rfl ?_
        exact A_iret d_260_143 mr_260 hW hf k
    | 11, h1, h2 =>
      have h3 := (Prod.mk.inj (Option.some.inj h1)).2
      have h4 := Option.some.inj h2
      subst h3; subst h4; clear h1 h2
      refine P_fgt [false, true, true] ?_
      exact t_Mo_done_j215 k hW  hf
    | 12, h1, h2 =>
      have h3 := (Prod.mk.inj (Option.some.inj h1)).2
      have h4 := Option.some.inj h2
      subst h3; subst h4; clear h1 h2
      refine P_fgt [false, true, true] ?_
      exact t_Mo_done_j215 k hW  hf
    | 13, h1, h2 =>
      have h3 := (Prod.mk.inj (Option.some.inj h1)).2
      have h4 := Option.some.inj h2
      subst h3; subst h4; clear h1 h2
      refine P_fgt [false, true, true] ?_
      exact t_Mo_done_j215 k hW  hf
    | 14, h1, h2 =>
      have h3 := (Prod.mk.inj (Option.some.inj h1)).2
      have h4 := Option.some.inj h2
      subst h3; subst h4; clear h1 h2
      refine P_fgt [false, true, true] ?_
      exact t_Mo_done_j215 k hW  hf
    | 15, h1, h2 =>
      have h3 := (Prod.mk.inj (Option.some.inj h1)).2
      have h4 := Option.some.inj h2
      subst h3; subst h4; clear h1 h2
      refine P_fgt [false, true, true] ?_
      exact t_Mo_done_j215 k hW  hf
    | 16, h1, h2 =>
      have h3 := (Prod.mk.inj (Option.some.inj h1)).2
      have h4 := Option.some.inj h2
      subst h3; subst h4; clear h1 h2
      refine P_fgt [false, true, true] ?_
      exact t_Mo_done_j215 k hW  hf
    | 17, h1, h2 =>
      have h3 := (Prod.mk.inj (Option.some.inj h1)).2
      have h4 := Option.some.inj h2
      subst h3; subst h4; clear h1 h2
      refine P_fgt [false, true, true] ?_
      exact t_Mo_done_j215 k hW  hf
    | 18, h1, h2 =>
      have h3 := (Prod.mk.inj (Option.some.inj h1)).2
      have h4 := Option.some.inj h2
      subst h3; subst h4; clear h1 h2
      refine P_fgt [false, true, true] ?_
      exact t_Mo_done_j215 k hW  hf
    | 19, h1, h2 =>
      have h3 := (Prod.mk.inj (Option.some.inj h1)).2
      have h4 := Option.some.inj h2
      subst h3; subst h4; clear h1 h2
      refine P_fgt [false, true, true] ?_
      exact t_Mo_done_j215 k hW  hf
    | 20, h1, h2 =>
      have h3 := (Prod.mk.inj (Option.some.inj h1)).2
      have h4 := Option.some.inj h2
      subst h3; subst h4; clear h1 h2
      refine P_fgt [false, true, true] ?_
      exact t_Mo_done_j215 k hW  hf
    | 21, h1, h2 =>
      have h3 := (Prod.mk.inj (Option.some.inj h1)).2
      have h4 := Option.some.inj h2
      subst h3; subst h4; clear h1 h2
      refine P_fgt [false, true, true] ?_
      exact t_Mo_done_j215 k hW  hf
    | 22, h1, h2 =>
      have h3 := (Prod.mk.inj (Option.some.inj h1)).2
      have h4 := Option.some.inj h2
      subst h3; subst h4; clear h1 h2
      refine P_fgt [false, true, true] ?_
      exact t_Mo_done_j215 k hW  hf
    | 23, h1, h2 =>
      have h3 := (Prod.mk.inj (Option.some.inj h1)).2
      have h4 := Option.some.inj h2
      subst h3; subst h4; clear h1 h2
      refine P_iload_n d_260_156 rfl ?_
      refine P_iload_n d_260_157 rfl ?_
      refine A_icmp_ge (tgt := 165) d_260_158 rfl hf (fun hf => ?_) (fun hf => ?_)
      · refine A_iconst d_260_165 ic_0 ?_
        refine P_fgt [false, false, false] ?_
        exact t_Mo_done_j166 k hW  hf
      · refine A_iconst d_260_161 ic_1 ?_
        refine P_goto (tgt := 166) d_260_162 rfl ?_
        refine P_fgt [false, false, false] ?_
        exact t_Mo_done_j166 k hW  hf
    | 24, h1, h2 =>
      have h3 := (Prod.mk.inj (Option.some.inj h1)).2
      have h4 := Option.some.inj h2
      subst h3; subst h4; clear h1 h2
      refine P_iload_n d_260_184 rfl ?_
      refine P_iload_n d_260_185 rfl ?_
      refine A_icmp_ne (tgt := 193) d_260_186 rfl hf (fun hf => ?_) (fun hf => ?_)
      · refine A_iconst d_260_193 ic_0 ?_
        refine P_fgt [false, false, false] ?_
        exact t_Mo_done_j194 k hW  hf
      · refine A_iconst d_260_189 ic_1 ?_
        refine P_goto (tgt := 194) d_260_190 rfl ?_
        refine P_fgt [false, false, false] ?_
        exact t_Mo_done_j194 k hW  hf
    | 25, h1, h2 =>
      have h3 := (Prod.mk.inj (Option.some.inj h1)).2
      have h4 := Option.some.inj h2
      subst h3; subst h4; clear h1 h2
      refine P_iload_n d_260_170 rfl ?_
      refine P_iload_n d_260_171 rfl ?_
      refine A_icmp_le (tgt := 179) d_260_172 rfl hf (fun hf => ?_) (fun hf => ?_)
      · refine A_iconst d_260_179 ic_0 ?_
        refine P_fgt [false, false, false] ?_
        exact t_Mo_done_j180 k hW  hf
      · refine A_iconst d_260_175 ic_1 ?_
        refine P_goto (tgt := 180) d_260_176 rfl ?_
        refine P_fgt [false, false, false] ?_
        exact t_Mo_done_j180 k hW  hf
    | i + 26, h1, h2 => exact absurd h2 (by simp)
  · refine P_fgt [false, true, true] ?_
    exact t_Mo_done_j215 k hW  hf
def f_Mo_turnsAt_j194 (rec : Int32 → Int32 → AM → Option (Unit × AM)) (v4 : Int32) (v5 : Int32) (s0 : Nat) (s1 : Int32) (s2 : Int32) (M : AM) : Option (Unit × AM) :=
  bnd (f_Mo_truth s2 M) (fun r1 M2 => ast 64 M2 s0 s1 r1 (fun M3 => rec v4 (v5 + 1) M3))
set_option maxRecDepth 20000 in
theorem t_Mo_turnsAt_j194 {G : GT} {d : Nat} {v4 : Int32} {v5 : Int32} {s0 : Nat} {s1 : Int32} {s2 : Int32} {M : AM} {Q : AM → Option Value → Prop} {yo : Unit} {Mo : AM} {rec : Int32 → Int32 → AM → Option (Unit × AM)} (hrec : ∀ (v4 : Int32) (v5 : Int32) (M : AM), WT M → rec v4 v5 M = some (yo, Mo) → PW G (d + 2) 258 83 [.ref 105, ux, ux, ux, .int v4, .int v5] [] M 0 0 Q) (k1 : WT Mo → PW G (d + 2) 258 245 [.ref 105, ux, ux, ux, ux, ux] [] Mo 0 0 Q) (hW : WT M) (hs0 : kd0 s0 = 20 ∧ ln0 s0 = 64) (hf : f_Mo_turnsAt_j194 rec v4 v5 s0 s1 s2 M = some (yo, Mo)) : PW G (d + 2) 258 194 [.ref 105, ux, ux, ux, .int v4, .int v5] [.int s2, .int s1, .ref s0] M 0 0 Q := by
  refine A_S1 d_258_194 sk_258_283 ml_259 rfl rfl hf (fun r1 M2 hc hf => t_Mo_truth hW  hc (fun hW => ?_))
  refine A_iast d_258_197 hs0.1 hs0.2 hW hf (fun hW hf => ?_)
  refine P_goto (tgt := 239) d_258_198 rfl ?_
  refine A_iinc d_258_239 ic_1 rfl ml_258 rfl rfl ?_
  refine P_goto (tgt := 83) d_258_242 rfl ?_
  exact hrec _ _ _ hW  hf
def f_Mo_turnsAt_j151 (rec : Int32 → Int32 → AM → Option (Unit × AM)) (v4 : Int32) (v5 : Int32) (s0 : Nat) (s1 : Int32) (s2 : Int32) (M : AM) : Option (Unit × AM) :=
  ast 64 M s0 s1 s2 (fun M1 => rec (v4 + 1) (v5 + 1) M1)
set_option maxRecDepth 20000 in
theorem t_Mo_turnsAt_j151 {G : GT} {d : Nat} {v4 : Int32} {v5 : Int32} {s0 : Nat} {s1 : Int32} {s2 : Int32} {M : AM} {Q : AM → Option Value → Prop} {yo : Unit} {Mo : AM} {rec : Int32 → Int32 → AM → Option (Unit × AM)} (hrec : ∀ (v4 : Int32) (v5 : Int32) (M : AM), WT M → rec v4 v5 M = some (yo, Mo) → PW G (d + 2) 258 83 [.ref 105, ux, ux, ux, .int v4, .int v5] [] M 0 0 Q) (k1 : WT Mo → PW G (d + 2) 258 245 [.ref 105, ux, ux, ux, ux, ux] [] Mo 0 0 Q) (hW : WT M) (hs0 : kd0 s0 = 20 ∧ ln0 s0 = 64) (hf : f_Mo_turnsAt_j151 rec v4 v5 s0 s1 s2 M = some (yo, Mo)) : PW G (d + 2) 258 151 [.ref 105, ux, ux, ux, .int v4, .int v5] [.int s2, .int s1, .ref s0] M 0 0 Q := by
  refine A_iast d_258_151 hs0.1 hs0.2 hW hf (fun hW hf => ?_)
  refine A_iinc d_258_152 ic_1 rfl ml_258 rfl rfl ?_
  refine P_goto (tgt := 239) d_258_155 rfl ?_
  refine A_iinc d_258_239 ic_1 rfl ml_258 rfl rfl ?_
  refine P_goto (tgt := 83) d_258_242 rfl ?_
  exact hrec _ _ _ hW  hf
def f_Mo_turnsAt_j113 (rec : Int32 → Int32 → AM → Option (Unit × AM)) (v4 : Int32) (v5 : Int32) (M : AM) : Option (Unit × AM) :=
  ald 320 M 110 v5 (fun x1 => if x1 = 0 then ald 320 M 111 v5 (fun x4 => f_Mo_turnsAt_j151 rec v4 v5 113 v4 x4 M) else ald 320 M 111 v5 (fun x2 => ald 6 M 114 x2 (fun x3 => f_Mo_turnsAt_j151 rec v4 v5 113 v4 x3 M)))
set_option maxRecDepth 20000 in
theorem t_Mo_turnsAt_j113 {G : GT} {d : Nat} {v4 : Int32} {v5 : Int32} {M : AM} {Q : AM → Option Value → Prop} {yo : Unit} {Mo : AM} {rec : Int32 → Int32 → AM → Option (Unit × AM)} (hrec : ∀ (v4 : Int32) (v5 : Int32) (M : AM), WT M → rec v4 v5 M = some (yo, Mo) → PW G (d + 2) 258 83 [.ref 105, ux, ux, ux, .int v4, .int v5] [] M 0 0 Q) (k1 : WT Mo → PW G (d + 2) 258 245 [.ref 105, ux, ux, ux, ux, ux] [] Mo 0 0 Q) (hW : WT M)  (hf : f_Mo_turnsAt_j113 rec v4 v5 M = some (yo, Mo)) : PW G (d + 2) 258 113 [.ref 105, ux, ux, ux, .int v4, .int v5] [] M 0 0 Q := by
  refine P_aload_n d_258_113 rfl ?_
  refine A_gF d_258_114 cn_258 fk_CordLoftModel_36 ft_13_16 k_105 hW ?_
  refine P_iload d_258_117 rfl ?_
  refine P_aload_n d_258_119 rfl ?_
  refine A_gF d_258_120 cn_258 fk_CordLoftModel_27 ft_13_13 k_105 hW ?_
  refine P_iload d_258_123 rfl ?_
  refine A_iald d_258_125 k_110 l_110 hW hf (fun hf => ?_)
  refine A_if_ne (tgt := 139) d_258_126 rfl hf (fun hf => ?_) (fun hf => ?_)
  · refine P_aload_n d_258_139 rfl ?_
    refine A_gF d_258_140 cn_258 fk_CordLoftModel_39 ft_13_26 k_105 hW ?_
    refine P_aload_n d_258_143 rfl ?_
    refine A_gF d_258_144 cn_258 fk_CordLoftModel_30 ft_13_14 k_105 hW ?_
    refine P_iload d_258_147 rfl ?_
    refine A_iald d_258_149 k_111 l_111 hW hf (fun hf => ?_)
    refine A_iald d_258_150 k_114 l_114 hW hf (fun hf => ?_)
    exact t_Mo_turnsAt_j151 hrec k1 hW ⟨k_113, l_113⟩ hf
  · refine P_aload_n d_258_129 rfl ?_
    refine A_gF d_258_130 cn_258 fk_CordLoftModel_30 ft_13_14 k_105 hW ?_
    refine P_iload d_258_133 rfl ?_
    refine A_iald d_258_135 k_111 l_111 hW hf (fun hf => ?_)
    refine P_goto (tgt := 151) d_258_136 rfl ?_
    exact t_Mo_turnsAt_j151 hrec k1 hW ⟨k_113, l_113⟩ hf
def f_Mo_turnsAt_b83 (rec : Int32 → Int32 → AM → Option (Unit × AM))  (v4 : Int32) (v5 : Int32) (M : AM) : Option (Unit × AM) :=
  if (gI M 105 18) ≤ v5 then some ((), M) else ald 320 M 110 v5 (fun x1 => if x1 = 0 then f_Mo_turnsAt_j113 rec v4 v5 M else ald 320 M 110 v5 (fun x2 => if x2 = 1 then f_Mo_turnsAt_j113 rec v4 v5 M else ald 320 M 110 v5 (fun x3 => if x3 = 2 then ald 64 M 113 (v4 - 1) (fun x10 => if x10 = 0 then f_Mo_turnsAt_j194 rec v4 v5 113 (v4 - 1) 1 M else f_Mo_turnsAt_j194 rec v4 v5 113 (v4 - 1) 0 M) else ald 320 M 111 v5 (fun x4 => ald 64 M 113 ((v4 + (-1)) - 1) (fun x5 => ald 64 M 113 (v4 + (-1)) (fun x6 => bnd (f_Mo_done x4 x5 x6 M) (fun r7 M8 => ast 64 M8 113 ((v4 + (-1)) - 1) r7 (fun M9 => rec (v4 + (-1)) (v5 + 1) M9))))))))
def f_Mo_turnsAt_l83  : Nat → Int32 → Int32 → AM → Option (Unit × AM)
  | 0, _, _, _ => none
  | n + 1, v4, v5, M => f_Mo_turnsAt_b83 (f_Mo_turnsAt_l83  n)  v4 v5 M
set_option maxRecDepth 20000 in
theorem t_Mo_turnsAt_b83 {G : GT} {d : Nat}  {v4 : Int32} {v5 : Int32} {M : AM} {Q : AM → Option Value → Prop} {yo : Unit} {Mo : AM} {rec : Int32 → Int32 → AM → Option (Unit × AM)} (hrec : ∀ (v4 : Int32) (v5 : Int32) (M : AM), WT M → rec v4 v5 M = some (yo, Mo) → PW G (d + 2) 258 83 [.ref 105, ux, ux, ux, .int v4, .int v5] [] M 0 0 Q) (k1 : WT Mo → PW G (d + 2) 258 245 [.ref 105, ux, ux, ux, ux, ux] [] Mo 0 0 Q) (hW : WT M)   (hf : f_Mo_turnsAt_b83 rec  v4 v5 M = some (yo, Mo)) : PW G (d + 2) 258 83 [.ref 105, ux, ux, ux, .int v4, .int v5] [] M 0 0 Q := by
  refine P_iload d_258_83 rfl ?_
  refine P_aload_n d_258_85 rfl ?_
  refine A_gI d_258_86 cn_258 fk_CordLoftModel_296 k_105 hW ?_
  refine A_icmp_ge (tgt := 245) d_258_89 rfl hf (fun hf => ?_) (fun hf => ?_)
  · refine P_fgt [true, false, false, false, false, false] ?_
    cases hf
    exact k1 hW 
  · refine P_aload_n d_258_92 rfl ?_
    refine A_gF d_258_93 cn_258 fk_CordLoftModel_27 ft_13_13 k_105 hW ?_
    refine P_iload d_258_96 rfl ?_
    refine A_iald d_258_98 k_110 l_110 hW hf (fun hf => ?_)
    refine A_if_eq (tgt := 113) d_258_99 rfl hf (fun hf => ?_) (fun hf => ?_)
    · exact t_Mo_turnsAt_j113 hrec k1 hW  hf
    · refine P_aload_n d_258_102 rfl ?_
      refine A_gF d_258_103 cn_258 fk_CordLoftModel_27 ft_13_13 k_105 hW ?_
      refine P_iload d_258_106 rfl ?_
      refine A_iald d_258_108 k_110 l_110 hW hf (fun hf => ?_)
      refine A_iconst d_258_109 ic_1 ?_
      refine A_icmp_ne (tgt := 158) d_258_110 rfl hf (fun hf => ?_) (fun hf => ?_)
      · refine P_aload_n d_258_158 rfl ?_
        refine A_gF d_258_159 cn_258 fk_CordLoftModel_27 ft_13_13 k_105 hW ?_
        refine P_iload d_258_162 rfl ?_
        refine A_iald d_258_164 k_110 l_110 hW hf (fun hf => ?_)
        refine A_iconst d_258_165 ic_2 ?_
        refine A_icmp_ne (tgt := 201) d_258_166 rfl hf (fun hf => ?_) (fun hf => ?_)
        · refine A_iinc d_258_201 ic_m1 rfl ml_258 rfl rfl ?_
          refine P_aload_n d_258_204 rfl ?_
          refine A_gF d_258_205 cn_258 fk_CordLoftModel_36 ft_13_16 k_105 hW ?_
          refine P_iload d_258_208 rfl ?_
          refine A_iconst d_258_210 ic_1 ?_
          refine P_isub d_258_211 ?_
          refine P_aload_n d_258_212 rfl ?_
          refine A_gF d_258_213 cn_258 fk_CordLoftModel_30 ft_13_14 k_105 hW ?_
          refine P_iload d_258_216 rfl ?_
          refine A_iald d_258_218 k_111 l_111 hW hf (fun hf => ?_)
          refine P_aload_n d_258_219 rfl ?_
          refine A_gF d_258_220 cn_258 fk_CordLoftModel_36 ft_13_16 k_105 hW ?_
          refine P_iload d_258_223 rfl ?_
          refine A_iconst d_258_225 ic_1 ?_
          refine P_isub d_258_226 ?_
          refine A_iald d_258_227 k_113 l_113 hW hf (fun hf => ?_)
          refine P_aload_n d_258_228 rfl ?_
          refine A_gF d_258_229 cn_258 fk_CordLoftModel_36 ft_13_16 k_105 hW ?_
          refine P_iload d_258_232 rfl ?_
          refine A_iald d_258_234 k_113 l_113 hW hf (fun hf => ?_)
          refine A_S3 d_258_235 sk_258_299 ml_260 rfl rfl hf (fun r7 M8 hc hf => t_Mo_done hW  hc (fun hW => ?_))
          refine A_iast d_258_238 k_113 l_113 hW hf (fun hW hf => ?_)
          refine A_iinc d_258_239 ic_1 rfl ml_258 rfl rfl ?_
          refine P_goto (tgt := 83) d_258_242 rfl ?_
          exact hrec _ _ _ hW  hf
        · refine P_aload_n d_258_169 rfl ?_
          refine A_gF d_258_170 cn_258 fk_CordLoftModel_36 ft_13_16 k_105 hW ?_
          refine P_iload d_258_173 rfl ?_
          refine A_iconst d_258_175 ic_1 ?_
          refine P_isub d_258_176 ?_
          refine P_aload_n d_258_177 rfl ?_
          refine A_gF d_258_178 cn_258 fk_CordLoftModel_36 ft_13_16 k_105 hW ?_
          refine P_iload d_258_181 rfl ?_
          refine A_iconst d_258_183 ic_1 ?_
          refine P_isub d_258_184 ?_
          refine A_iald d_258_185 k_113 l_113 hW hf (fun hf => ?_)
          refine A_if_ne (tgt := 193) d_258_186 rfl hf (fun hf => ?_) (fun hf => ?_)
          · refine A_iconst d_258_193 ic_0 ?_
            exact t_Mo_turnsAt_j194 hrec k1 hW ⟨k_113, l_113⟩ hf
          · refine A_iconst d_258_189 ic_1 ?_
            refine P_goto (tgt := 194) d_258_190 rfl ?_
            exact t_Mo_turnsAt_j194 hrec k1 hW ⟨k_113, l_113⟩ hf
      · exact t_Mo_turnsAt_j113 hrec k1 hW  hf
theorem t_Mo_turnsAt_l83 {G : GT} {d : Nat}  {Q : AM → Option Value → Prop} {yo : Unit} {Mo : AM} (k1 : WT Mo → PW G (d + 2) 258 245 [.ref 105, ux, ux, ux, ux, ux] [] Mo 0 0 Q)  : ∀ (z : Nat) (v4 : Int32) (v5 : Int32) (M : AM), WT M → f_Mo_turnsAt_l83  z v4 v5 M = some (yo, Mo) → PW G (d + 2) 258 83 [.ref 105, ux, ux, ux, .int v4, .int v5] [] M 0 0 Q := by
  intro z
  induction z with
  | zero => intro v4 v5 M hW hf; cases hf
  | succ z ih => intro v4 v5 M hW hf; exact t_Mo_turnsAt_b83 (fun v4 v5 M hW hf => ih v4 v5 M hW hf) k1 hW   hf
def f_Mo_turnsAt (a1 : Int32) (a2 : Int32) (a3 : Int32) (M : AM) : Option (Int32 × AM) :=
  if (gI M 105 25) = 0 then some (0, M) else ast 6 M 114 0 ((a2 >>> (a1 &&& 31)) &&& 1) (fun M1 => ald 8 M1 120 a1 (fun x2 => bnd (f_Mo_members (a2 &&& x2) M1) (fun r3 M4 => ast 6 M4 114 1 r3 (fun M5 => bnd (f_Mo_cordsOf a1 M5) (fun r6 M7 => bnd (f_Mo_members r6 M7) (fun r8 M9 => ast 6 M9 114 2 r8 (fun M10 => ast 6 M10 114 3 a1 (fun M11 => ald 8 M11 119 a1 (fun x12 => ast 6 M11 114 4 x12 (fun M13 => ast 6 M13 114 5 a3 (fun M14 => bnd (f_Mo_turnsAt_l83  fu 0 0 M14) (fun y15 M16 => ald 64 M16 113 0 (fun x17 => if x17 ≤ 0 then some (0, M16) else some (1, M16))))))))))))))
set_option maxRecDepth 20000 in
theorem t_Mo_turnsAt {G : GT} {d : Nat} {a1 : Int32} {a2 : Int32} {a3 : Int32} {M : AM} {Q : AM → Option Value → Prop} {r : Int32} {M' : AM} (hW : WT M)  (hf : f_Mo_turnsAt a1 a2 a3 M = some (r, M')) (k : WT M' → (r = 0 ∨ r = 1) → Q M' (some (.int r)))  : Cal G (d + 2) 258 [.ref 105, .int a1, .int a2, .int a3] M Q := by
  refine A_enter ml_258 rfl ?_
  refine P_aload_n d_258_0 rfl ?_
  refine A_gZ d_258_1 cn_258 fk_CordLoftModel_287 k_105 hW ?_
  refine A_if_ne (tgt := 9) d_258_4 rfl hf (fun hf => ?_) (fun hf => ?_)
  · refine P_aload_n d_258_9 rfl ?_
    refine A_gF d_258_10 cn_258 fk_CordLoftModel_39 ft_13_26 k_105 hW ?_
    refine A_iconst d_258_13 ic_0 ?_
    refine P_iload_n d_258_14 rfl ?_
    refine P_iload_n d_258_15 rfl ?_
    refine P_ishr d_258_16 ?_
    refine A_iconst d_258_17 ic_1 ?_
    refine P_iand d_258_18 ?_
    refine A_iast d_258_19 k_114 l_114 hW hf (fun hW hf => ?_)
    refine P_aload_n d_258_20 rfl ?_
    refine A_gF d_258_21 cn_258 fk_CordLoftModel_39 ft_13_26 k_105 hW ?_
    refine A_iconst d_258_24 ic_1 ?_
    refine P_iload_n d_258_25 rfl ?_
    refine P_aload_n d_258_26 rfl ?_
    refine A_gF d_258_27 cn_258 fk_CordLoftModel_57 ft_13_32 k_105 hW ?_
    refine P_iload_n d_258_30 rfl ?_
    refine A_iald d_258_31 k_120 l_120 hW hf (fun hf => ?_)
    refine P_iand d_258_32 ?_
    refine A_S1 d_258_33 sk_258_290 ml_250 rfl rfl hf (fun r3 M4 hc hf => t_Mo_members hW  hc (fun hW => ?_))
    refine A_iast d_258_36 k_114 l_114 hW hf (fun hW hf => ?_)
    refine P_aload_n d_258_37 rfl ?_
    refine A_gF d_258_38 cn_258 fk_CordLoftModel_39 ft_13_26 k_105 hW ?_
    refine A_iconst d_258_41 ic_2 ?_
    refine P_aload_n d_258_42 rfl ?_
    refine P_iload_n d_258_43 rfl ?_
    refine A_V1 d_258_44 vk_258_293 ml_244 rfl k_105 hW rfl hf (fun r6 M7 hc hf => t_Mo_cordsOf hW  hc (fun hW => ?_))
    refine A_S1 d_258_47 sk_258_290 ml_250 rfl rfl hf (fun r8 M9 hc hf => t_Mo_members hW  hc (fun hW => ?_))
    refine A_iast d_258_50 k_114 l_114 hW hf (fun hW hf => ?_)
    refine P_aload_n d_258_51 rfl ?_
    refine A_gF d_258_52 cn_258 fk_CordLoftModel_39 ft_13_26 k_105 hW ?_
    refine A_iconst d_258_55 ic_3 ?_
    refine P_iload_n d_258_56 rfl ?_
    refine A_iast d_258_57 k_114 l_114 hW hf (fun hW hf => ?_)
    refine P_aload_n d_258_58 rfl ?_
    refine A_gF d_258_59 cn_258 fk_CordLoftModel_39 ft_13_26 k_105 hW ?_
    refine A_iconst d_258_62 ic_4 ?_
    refine P_aload_n d_258_63 rfl ?_
    refine A_gF d_258_64 cn_258 fk_CordLoftModel_54 ft_13_31 k_105 hW ?_
    refine P_iload_n d_258_67 rfl ?_
    refine A_iald d_258_68 k_119 l_119 hW hf (fun hf => ?_)
    refine A_iast d_258_69 k_114 l_114 hW hf (fun hW hf => ?_)
    refine P_aload_n d_258_70 rfl ?_
    refine A_gF d_258_71 cn_258 fk_CordLoftModel_39 ft_13_26 k_105 hW ?_
    refine A_iconst d_258_74 ic_5 ?_
    refine P_iload_n d_258_75 rfl ?_
    refine A_iast d_258_76 k_114 l_114 hW hf (fun hW hf => ?_)
    refine A_iconst d_258_77 ic_0 ?_
    refine A_istore d_258_78 ml_258 rfl rfl ?_
    refine A_iconst d_258_80 ic_0 ?_
    refine A_istore d_258_81 ml_258 rfl rfl ?_
    obtain ⟨y15, M16, hl, hf⟩ := bnd_some hf
    refine P_fgt [true, false, false, false, true, true] ?_
    refine t_Mo_turnsAt_l83 (fun hW => ?_)  fu _ _ _ hW  hl
    refine P_aload_n d_258_245 rfl ?_
    refine A_gF d_258_246 cn_258 fk_CordLoftModel_36 ft_13_16 k_105 hW ?_
    refine A_iconst d_258_249 ic_0 ?_
    refine A_iald d_258_250 k_113 l_113 hW hf (fun hf => ?_)
    refine A_if_le (tgt := 258) d_258_251 rfl hf (fun hf => ?_) (fun hf => ?_)
    · refine A_iconst d_258_258 ic_0 ?_
      exact A_zret d_258_259 mr_258 hW (Or.inl rfl) hf k
    · refine A_iconst d_258_254 ic_1 ?_
      refine P_goto (tgt := 259) d_258_255 rfl ?_
      exact A_zret d_258_259 mr_258 hW (Or.inr rfl) hf k
  · refine A_iconst d_258_7 ic_0 ?_
    exact A_zret d_258_8 mr_258 hW (Or.inl rfl) hf k
def f_Mo_duskOf_b5 (rec : Int32 → Int32 → AM → Option (Int32 × AM)) (v1 : Int32) (v2 : Int32) (v3 : Int32) (v4 : Int32) (M : AM) : Option (Int32 × AM) :=
  if (gI M 105 41) ≤ v4 then some (v3, M) else bnd (f_Mo_turnsAt v4 v1 v2 M) (fun r1 M2 => bnd (f_Mo_truth r1 M2) (fun r3 M4 => rec (v3 ^^^ (r3 <<< (v4 &&& 31))) (v4 + 1) M4))
def f_Mo_duskOf_l5 (v1 : Int32) (v2 : Int32) : Nat → Int32 → Int32 → AM → Option (Int32 × AM)
  | 0, _, _, _ => none
  | n + 1, v3, v4, M => f_Mo_duskOf_b5 (f_Mo_duskOf_l5 v1 v2 n) v1 v2 v3 v4 M
set_option maxRecDepth 20000 in
theorem t_Mo_duskOf_b5 {G : GT} {d : Nat} {v1 : Int32} {v2 : Int32} {v3 : Int32} {v4 : Int32} {M : AM} {Q : AM → Option Value → Prop} {yo : Int32} {Mo : AM} {rec : Int32 → Int32 → AM → Option (Int32 × AM)} (hrec : ∀ (v3 : Int32) (v4 : Int32) (M : AM), WT M → rec v3 v4 M = some (yo, Mo) → PW G (d + 3) 257 5 [.ref 105, .int v1, .int v2, .int v3, .int v4] [] M 0 0 Q) (k1 : WT Mo → PW G (d + 3) 257 37 [ux, ux, ux, .int yo, ux] [] Mo 0 0 Q) (hW : WT M)   (hf : f_Mo_duskOf_b5 rec v1 v2 v3 v4 M = some (yo, Mo)) : PW G (d + 3) 257 5 [.ref 105, .int v1, .int v2, .int v3, .int v4] [] M 0 0 Q := by
  refine P_iload d_257_5 rfl ?_
  refine P_aload_n d_257_7 rfl ?_
  refine A_gI d_257_8 cn_257 fk_CordLoftModel_303 k_105 hW ?_
  refine A_icmp_ge (tgt := 37) d_257_11 rfl hf (fun hf => ?_) (fun hf => ?_)
  · refine P_fgt [false, false, false, true, false] ?_
    cases hf
    exact k1 hW 
  · refine P_iload_n d_257_14 rfl ?_
    refine P_aload_n d_257_15 rfl ?_
    refine P_iload d_257_16 rfl ?_
    refine P_iload_n d_257_18 rfl ?_
    refine P_iload_n d_257_19 rfl ?_
    refine A_V3 d_257_20 vk_257_306 ml_258 rfl k_105 hW rfl hf (fun r1 M2 hc hf => t_Mo_turnsAt hW  hc (fun hW hb2 => ?_))
    refine A_S1 d_257_23 sk_257_283 ml_259 rfl rfl hf (fun r3 M4 hc hf => t_Mo_truth hW  hc (fun hW => ?_))
    refine P_iload d_257_26 rfl ?_
    refine P_ishl d_257_28 ?_
    refine P_ixor d_257_29 ?_
    refine A_istore_n d_257_30 ml_257 rfl rfl ?_
    refine A_iinc d_257_31 ic_1 rfl ml_257 rfl rfl ?_
    refine P_goto (tgt := 5) d_257_34 rfl ?_
    exact hrec _ _ _ hW  hf
theorem t_Mo_duskOf_l5 {G : GT} {d : Nat} {v1 : Int32} {v2 : Int32} {Q : AM → Option Value → Prop} {yo : Int32} {Mo : AM} (k1 : WT Mo → PW G (d + 3) 257 37 [ux, ux, ux, .int yo, ux] [] Mo 0 0 Q)  : ∀ (z : Nat) (v3 : Int32) (v4 : Int32) (M : AM), WT M → f_Mo_duskOf_l5 v1 v2 z v3 v4 M = some (yo, Mo) → PW G (d + 3) 257 5 [.ref 105, .int v1, .int v2, .int v3, .int v4] [] M 0 0 Q := by
  intro z
  induction z with
  | zero => intro v3 v4 M hW hf; cases hf
  | succ z ih => intro v3 v4 M hW hf; exact t_Mo_duskOf_b5 (fun v3 v4 M hW hf => ih v3 v4 M hW hf) k1 hW   hf
def f_Mo_duskOf (a1 : Int32) (a2 : Int32) (M : AM) : Option (Int32 × AM) :=
  bnd (f_Mo_duskOf_l5 a1 a2 fu a1 0 M) (fun y1 M2 => some (y1, M2))
set_option maxRecDepth 20000 in
theorem t_Mo_duskOf {G : GT} {d : Nat} {a1 : Int32} {a2 : Int32} {M : AM} {Q : AM → Option Value → Prop} {r : Int32} {M' : AM} (hW : WT M)  (hf : f_Mo_duskOf a1 a2 M = some (r, M')) (k : WT M' → Q M' (some (.int r)))  : Cal G (d + 3) 257 [.ref 105, .int a1, .int a2] M Q := by
  refine A_enter ml_257 rfl ?_
  refine P_iload_n d_257_0 rfl ?_
  refine A_istore_n d_257_1 ml_257 rfl rfl ?_
  refine A_iconst d_257_2 ic_0 ?_
  refine A_istore d_257_3 ml_257 rfl rfl ?_
  obtain ⟨y1, M2, hl, hf⟩ := bnd_some hf
  refine t_Mo_duskOf_l5 (fun hW => ?_)  fu _ _ _ hW  hl
  refine P_iload_n d_257_37 rfl ?_
  exact A_iret d_257_38 mr_257 hW hf k
def f_Mo_gustyDusk (a1 : Int32) (a2 : Int32) (M : AM) : Option (Int32 × AM) :=
  bnd (f_Mo_duskOf a1 a2 M) (fun r1 M2 => wI M2 105 54 ((((gI M2 105 54) * 137) + 71) % 1000) (fun M3 => if (gI M3 105 45) ≤ ((gI M3 105 54) % 100) then some (r1, M3) else if (gI M3 105 41) ≤ 0 then some (r1, M3) else dvz (gI M3 105 41) (some (r1 ^^^ ((1 : Int32) <<< (((gI M3 105 54) % (gI M3 105 41)) &&& 31)), M3))))
set_option maxRecDepth 20000 in
theorem t_Mo_gustyDusk {G : GT} {d : Nat} {a1 : Int32} {a2 : Int32} {M : AM} {Q : AM → Option Value → Prop} {r : Int32} {M' : AM} (hW : WT M)  (hf : f_Mo_gustyDusk a1 a2 M = some (r, M')) (k : WT M' → Q M' (some (.int r)))  : Cal G (d + 4) 256 [.ref 105, .int a1, .int a2] M Q := by
  refine A_enter ml_256 rfl ?_
  refine P_aload_n d_256_0 rfl ?_
  refine P_iload_n d_256_1 rfl ?_
  refine P_iload_n d_256_2 rfl ?_
  refine A_V2 d_256_3 vk_256_417 ml_257 rfl k_105 hW rfl hf (fun r1 M2 hc hf => t_Mo_duskOf hW  hc (fun hW => ?_))
  refine A_istore_n d_256_6 ml_256 rfl rfl ?_
  refine P_aload_n d_256_7 rfl ?_
  refine P_aload_n d_256_8 rfl ?_
  refine A_gI d_256_9 cn_256 fk_CordLoftModel_420 k_105 hW ?_
  refine P_sipush d_256_12 si_137 ?_
  refine P_imul d_256_15 ?_
  refine P_bipush d_256_16 bi_71 ?_
  refine P_iadd d_256_18 ?_
  refine P_sipush d_256_19 si_1000 ?_
  refine P_irem d_256_22 nz_1000 ?_
  refine A_pI d_256_23 cn_256 fp_CordLoftModel_420 k_105 hW hf (fun hW hf => ?_)
  refine P_aload_n d_256_26 rfl ?_
  refine A_gI d_256_27 cn_256 fk_CordLoftModel_420 k_105 hW ?_
  refine P_bipush d_256_30 bi_100 ?_
  refine P_irem d_256_32 nz_100 ?_
  refine P_aload_n d_256_33 rfl ?_
  refine A_gI d_256_34 cn_256 fk_CordLoftModel_378 k_105 hW ?_
  refine A_icmp_ge (tgt := 63) d_256_37 rfl hf (fun hf => ?_) (fun hf => ?_)
  · refine P_iload_n d_256_63 rfl ?_
    exact A_iret d_256_64 mr_256 hW hf k
  · refine P_aload_n d_256_40 rfl ?_
    refine A_gI d_256_41 cn_256 fk_CordLoftModel_303 k_105 hW ?_
    refine A_if_le (tgt := 63) d_256_44 rfl hf (fun hf => ?_) (fun hf => ?_)
    · refine P_iload_n d_256_63 rfl ?_
      exact A_iret d_256_64 mr_256 hW hf k
    · refine P_iload_n d_256_47 rfl ?_
      refine A_iconst d_256_48 ic_1 ?_
      refine P_aload_n d_256_49 rfl ?_
      refine A_gI d_256_50 cn_256 fk_CordLoftModel_420 k_105 hW ?_
      refine P_aload_n d_256_53 rfl ?_
      refine A_gI d_256_54 cn_256 fk_CordLoftModel_303 k_105 hW ?_
      refine A_irem d_256_57 hf (fun hf => ?_)
      refine P_ishl d_256_58 ?_
      refine P_ixor d_256_59 ?_
      refine P_goto (tgt := 64) d_256_60 rfl ?_
      exact A_iret d_256_64 mr_256 hW hf k
def f_Mo_dusk  (M : AM) : Option (Int32 × AM) :=
  ald 5 M 123 3 (fun x1 => if x1 = 999 then some ((-1), M) else bnd (f_Mo_act  M) (fun r2 M3 => ald 5 M3 123 4 (fun x4 => wI M3 105 54 x4 (fun M5 => ald 5 M5 123 0 (fun x6 => ald 5 M5 123 3 (fun x7 => bnd (f_Mo_gustyDusk x6 x7 M5) (fun r8 M9 => ast 5 M9 123 0 r8 (fun M10 => ast 5 M10 123 4 (gI M10 105 54) (fun M11 => ald 5 M11 123 3 (fun x12 => ast 5 M11 123 3 (x12 + 1) (fun M13 => ald 5 M13 123 0 (fun x14 => some (x14, M13)))))))))))))
set_option maxRecDepth 20000 in
theorem t_Mo_dusk {G : GT} {d : Nat}  {M : AM} {Q : AM → Option Value → Prop} {r : Int32} {M' : AM} (hW : WT M)  (hf : f_Mo_dusk  M = some (r, M')) (k : WT M' → Q M' (some (.int r)))  : Cal G (d + 5) 255 [.ref 105] M Q := by
  refine A_enter ml_255 rfl ?_
  refine P_aload_n d_255_0 rfl ?_
  refine A_gF d_255_1 cn_255 fk_CordLoftModel_66 ft_13_50 k_105 hW ?_
  refine A_iconst d_255_4 ic_3 ?_
  refine A_iald d_255_5 k_123 l_123 hW hf (fun hf => ?_)
  refine P_sipush d_255_6 si_999 ?_
  refine A_icmp_ne (tgt := 14) d_255_9 rfl hf (fun hf => ?_) (fun hf => ?_)
  · refine P_aload_n d_255_14 rfl ?_
    refine A_V0 d_255_15 vk_255_411 ml_251 rfl k_105 hW rfl hf (fun r2 M3 hc hf => t_Mo_act hW  hc (fun hW => ?_))
    refine P_aload_n d_255_18 rfl ?_
    refine P_aload_n d_255_19 rfl ?_
    refine A_gF d_255_20 cn_255 fk_CordLoftModel_66 ft_13_50 k_105 hW ?_
    refine A_iconst d_255_23 ic_4 ?_
    refine A_iald d_255_24 k_123 l_123 hW hf (fun hf => ?_)
    refine A_pI d_255_25 cn_255 fp_CordLoftModel_420 k_105 hW hf (fun hW hf => ?_)
    refine P_aload_n d_255_28 rfl ?_
    refine A_gF d_255_29 cn_255 fk_CordLoftModel_66 ft_13_50 k_105 hW ?_
    refine A_iconst d_255_32 ic_0 ?_
    refine P_aload_n d_255_33 rfl ?_
    refine P_aload_n d_255_34 rfl ?_
    refine A_gF d_255_35 cn_255 fk_CordLoftModel_66 ft_13_50 k_105 hW ?_
    refine A_iconst d_255_38 ic_0 ?_
    refine A_iald d_255_39 k_123 l_123 hW hf (fun hf => ?_)
    refine P_aload_n d_255_40 rfl ?_
    refine A_gF d_255_41 cn_255 fk_CordLoftModel_66 ft_13_50 k_105 hW ?_
    refine A_iconst d_255_44 ic_3 ?_
    refine A_iald d_255_45 k_123 l_123 hW hf (fun hf => ?_)
    refine A_V2 d_255_46 vk_255_423 ml_256 rfl k_105 hW rfl hf (fun r8 M9 hc hf => t_Mo_gustyDusk hW  hc (fun hW => ?_))
    refine A_iast d_255_49 k_123 l_123 hW hf (fun hW hf => ?_)
    refine P_aload_n d_255_50 rfl ?_
    refine A_gF d_255_51 cn_255 fk_CordLoftModel_66 ft_13_50 k_105 hW ?_
    refine A_iconst d_255_54 ic_4 ?_
    refine P_aload_n d_255_55 rfl ?_
    refine A_gI d_255_56 cn_255 fk_CordLoftModel_420 k_105 hW ?_
    refine A_iast d_255_59 k_123 l_123 hW hf (fun hW hf => ?_)
    refine P_aload_n d_255_60 rfl ?_
    refine A_gF d_255_61 cn_255 fk_CordLoftModel_66 ft_13_50 k_105 hW ?_
    refine A_iconst d_255_64 ic_3 ?_
    refine P_dup2 d_255_65 rfl rfl ?_
    refine A_iald d_255_66 k_123 l_123 hW hf (fun hf => ?_)
    refine A_iconst d_255_67 ic_1 ?_
    refine P_iadd d_255_68 ?_
    refine A_iast d_255_69 k_123 l_123 hW hf (fun hW hf => ?_)
    refine P_aload_n d_255_70 rfl ?_
    refine A_gF d_255_71 cn_255 fk_CordLoftModel_66 ft_13_50 k_105 hW ?_
    refine A_iconst d_255_74 ic_0 ?_
    refine A_iald d_255_75 k_123 l_123 hW hf (fun hf => ?_)
    exact A_iret d_255_76 mr_255 hW hf k
  · refine A_iconst d_255_12 ic_m1 ?_
    exact A_iret d_255_13 mr_255 hW hf k
def f_Mo_exchangeAt_b2 (rec : Int32 → AM → Option (Unit × AM)) (v1 : Int32) (v2 : Int32) (M : AM) : Option (Unit × AM) :=
  if 5 ≤ v2 then some ((), M) else ald 200 M 124 (v1 + v2) (fun x1 => ald 5 M 123 v2 (fun x2 => ast 200 M 124 (v1 + v2) x2 (fun M3 => ast 5 M3 123 v2 x1 (fun M4 => rec (v2 + 1) M4))))
def f_Mo_exchangeAt_l2 (v1 : Int32) : Nat → Int32 → AM → Option (Unit × AM)
  | 0, _, _ => none
  | n + 1, v2, M => f_Mo_exchangeAt_b2 (f_Mo_exchangeAt_l2 v1 n) v1 v2 M
set_option maxRecDepth 20000 in
theorem t_Mo_exchangeAt_b2 {G : GT} {d : Nat} {v1 : Int32} {v2 : Int32} {M : AM} {Q : AM → Option Value → Prop} {yo : Unit} {Mo : AM} {rec : Int32 → AM → Option (Unit × AM)} (hrec : ∀ (v2 : Int32) (M : AM), WT M → rec v2 M = some (yo, Mo) → PW G d 262 2 [.ref 105, .int v1, .int v2, ux] [] M 0 0 Q) (k1 : WT Mo → PW G d 262 43 [ux, ux, ux, ux] [] Mo 0 0 Q) (hW : WT M)   (hf : f_Mo_exchangeAt_b2 rec v1 v2 M = some (yo, Mo)) : PW G d 262 2 [.ref 105, .int v1, .int v2, ux] [] M 0 0 Q := by
  refine P_iload_n d_262_2 rfl ?_
  refine A_iconst d_262_3 ic_5 ?_
  refine A_icmp_ge (tgt := 43) d_262_4 rfl hf (fun hf => ?_) (fun hf => ?_)
  · refine P_fgt [false, false, false, false] ?_
    cases hf
    exact k1 hW 
  · refine P_aload_n d_262_7 rfl ?_
    refine A_gF d_262_8 cn_262 fk_CordLoftModel_69 ft_13_51 k_105 hW ?_
    refine P_iload_n d_262_11 rfl ?_
    refine P_iload_n d_262_12 rfl ?_
    refine P_iadd d_262_13 ?_
    refine A_iald d_262_14 k_124 l_124 hW hf (fun hf => ?_)
    refine A_istore_n d_262_15 ml_262 rfl rfl ?_
    refine P_aload_n d_262_16 rfl ?_
    refine A_gF d_262_17 cn_262 fk_CordLoftModel_69 ft_13_51 k_105 hW ?_
    refine P_iload_n d_262_20 rfl ?_
    refine P_iload_n d_262_21 rfl ?_
    refine P_iadd d_262_22 ?_
    refine P_aload_n d_262_23 rfl ?_
    refine A_gF d_262_24 cn_262 fk_CordLoftModel_66 ft_13_50 k_105 hW ?_
    refine P_iload_n d_262_27 rfl ?_
    refine A_iald d_262_28 k_123 l_123 hW hf (fun hf => ?_)
    refine A_iast d_262_29 k_124 l_124 hW hf (fun hW hf => ?_)
    refine P_aload_n d_262_30 rfl ?_
    refine A_gF d_262_31 cn_262 fk_CordLoftModel_66 ft_13_50 k_105 hW ?_
    refine P_iload_n d_262_34 rfl ?_
    refine P_iload_n d_262_35 rfl ?_
    refine A_iast d_262_36 k_123 l_123 hW hf (fun hW hf => ?_)
    refine A_iinc d_262_37 ic_1 rfl ml_262 rfl rfl ?_
    refine P_goto (tgt := 2) d_262_40 rfl ?_
    refine P_fgt [true, true, true, false] ?_
    exact hrec _ _ hW  hf
theorem t_Mo_exchangeAt_l2 {G : GT} {d : Nat} {v1 : Int32} {Q : AM → Option Value → Prop} {yo : Unit} {Mo : AM} (k1 : WT Mo → PW G d 262 43 [ux, ux, ux, ux] [] Mo 0 0 Q)  : ∀ (z : Nat) (v2 : Int32) (M : AM), WT M → f_Mo_exchangeAt_l2 v1 z v2 M = some (yo, Mo) → PW G d 262 2 [.ref 105, .int v1, .int v2, ux] [] M 0 0 Q := by
  intro z
  induction z with
  | zero => intro v2 M hW hf; cases hf
  | succ z ih => intro v2 M hW hf; exact t_Mo_exchangeAt_b2 (fun v2 M hW hf => ih v2 M hW hf) k1 hW   hf
def f_Mo_exchangeAt (a1 : Int32) (M : AM) : Option (Unit × AM) :=
  bnd (f_Mo_exchangeAt_l2 a1 fu 0 M) (fun y1 M2 => some ((), M2))
set_option maxRecDepth 20000 in
theorem t_Mo_exchangeAt {G : GT} {d : Nat} {a1 : Int32} {M : AM} {Q : AM → Option Value → Prop} {r : Unit} {M' : AM} (hW : WT M)  (hf : f_Mo_exchangeAt a1 M = some (r, M')) (k : WT M' → Q M' none)  : Cal G d 262 [.ref 105, .int a1] M Q := by
  refine A_enter ml_262 rfl ?_
  refine A_iconst d_262_0 ic_0 ?_
  refine A_istore_n d_262_1 ml_262 rfl rfl ?_
  obtain ⟨y1, M2, hl, hf⟩ := bnd_some hf
  refine t_Mo_exchangeAt_l2 (fun hW => ?_)  fu _ _ hW  hl
  exact A_ret d_262_43 mr_262 hW hf k
def f_Mo_undo  (M : AM) : Option (Int32 × AM) :=
  if (gI M 105 52) = 0 then some (0, M) else wI M 105 52 ((gI M 105 52) - 1) (fun M1 => wI M1 105 53 ((gI M1 105 53) + 1) (fun M2 => bnd (f_Mo_exchangeAt (5 * (gI M2 105 52)) M2) (fun r3 M4 => some (1, M4))))
set_option maxRecDepth 20000 in
theorem t_Mo_undo {G : GT} {d : Nat}  {M : AM} {Q : AM → Option Value → Prop} {r : Int32} {M' : AM} (hW : WT M)  (hf : f_Mo_undo  M = some (r, M')) (k : WT M' → (r = 0 ∨ r = 1) → Q M' (some (.int r)))  : Cal G (d + 1) 261 [.ref 105] M Q := by
  refine A_enter ml_261 rfl ?_
  refine P_aload_n d_261_0 rfl ?_
  refine A_gI d_261_1 cn_261 fk_CordLoftModel_387 k_105 hW ?_
  refine A_if_ne (tgt := 9) d_261_4 rfl hf (fun hf => ?_) (fun hf => ?_)
  · refine P_aload_n d_261_9 rfl ?_
    refine P_dup d_261_10 rfl ?_
    refine A_gI d_261_11 cn_261 fk_CordLoftModel_387 k_105 hW ?_
    refine A_iconst d_261_14 ic_1 ?_
    refine P_isub d_261_15 ?_
    refine A_pI d_261_16 cn_261 fp_CordLoftModel_387 k_105 hW hf (fun hW hf => ?_)
    refine P_aload_n d_261_19 rfl ?_
    refine P_dup d_261_20 rfl ?_
    refine A_gI d_261_21 cn_261 fk_CordLoftModel_390 k_105 hW ?_
    refine A_iconst d_261_24 ic_1 ?_
    refine P_iadd d_261_25 ?_
    refine A_pI d_261_26 cn_261 fp_CordLoftModel_390 k_105 hW hf (fun hW hf => ?_)
    refine P_aload_n d_261_29 rfl ?_
    refine A_iconst d_261_30 ic_5 ?_
    refine P_aload_n d_261_31 rfl ?_
    refine A_gI d_261_32 cn_261 fk_CordLoftModel_387 k_105 hW ?_
    refine P_imul d_261_35 ?_
    refine A_V1 d_261_36 vk_261_426 ml_262 rfl k_105 hW rfl hf (fun r3 M4 hc hf => t_Mo_exchangeAt hW  hc (fun hW => ?_))
    refine A_iconst d_261_39 ic_1 ?_
    exact A_zret d_261_40 mr_261 hW (Or.inr rfl) hf k
  · refine A_iconst d_261_7 ic_0 ?_
    exact A_zret d_261_8 mr_261 hW (Or.inl rfl) hf k
def f_Mo_redo  (M : AM) : Option (Int32 × AM) :=
  if (gI M 105 53) = 0 then some (0, M) else bnd (f_Mo_exchangeAt (5 * (gI M 105 52)) M) (fun r1 M2 => wI M2 105 52 ((gI M2 105 52) + 1) (fun M3 => wI M3 105 53 ((gI M3 105 53) - 1) (fun M4 => some (1, M4))))
set_option maxRecDepth 20000 in
theorem t_Mo_redo {G : GT} {d : Nat}  {M : AM} {Q : AM → Option Value → Prop} {r : Int32} {M' : AM} (hW : WT M)  (hf : f_Mo_redo  M = some (r, M')) (k : WT M' → (r = 0 ∨ r = 1) → Q M' (some (.int r)))  : Cal G (d + 1) 263 [.ref 105] M Q := by
  refine A_enter ml_263 rfl ?_
  refine P_aload_n d_263_0 rfl ?_
  refine A_gI d_263_1 cn_263 fk_CordLoftModel_390 k_105 hW ?_
  refine A_if_ne (tgt := 9) d_263_4 rfl hf (fun hf => ?_) (fun hf => ?_)
  · refine P_aload_n d_263_9 rfl ?_
    refine A_iconst d_263_10 ic_5 ?_
    refine P_aload_n d_263_11 rfl ?_
    refine A_gI d_263_12 cn_263 fk_CordLoftModel_387 k_105 hW ?_
    refine P_imul d_263_15 ?_
    refine A_V1 d_263_16 vk_263_426 ml_262 rfl k_105 hW rfl hf (fun r1 M2 hc hf => t_Mo_exchangeAt hW  hc (fun hW => ?_))
    refine P_aload_n d_263_19 rfl ?_
    refine P_dup d_263_20 rfl ?_
    refine A_gI d_263_21 cn_263 fk_CordLoftModel_387 k_105 hW ?_
    refine A_iconst d_263_24 ic_1 ?_
    refine P_iadd d_263_25 ?_
    refine A_pI d_263_26 cn_263 fp_CordLoftModel_387 k_105 hW hf (fun hW hf => ?_)
    refine P_aload_n d_263_29 rfl ?_
    refine P_dup d_263_30 rfl ?_
    refine A_gI d_263_31 cn_263 fk_CordLoftModel_390 k_105 hW ?_
    refine A_iconst d_263_34 ic_1 ?_
    refine P_isub d_263_35 ?_
    refine A_pI d_263_36 cn_263 fp_CordLoftModel_390 k_105 hW hf (fun hW hf => ?_)
    refine A_iconst d_263_39 ic_1 ?_
    exact A_zret d_263_40 mr_263 hW (Or.inr rfl) hf k
  · refine A_iconst d_263_7 ic_0 ?_
    exact A_zret d_263_8 mr_263 hW (Or.inl rfl) hf k
def f_Mo_will_b41 (rec : Int32 → Int32 → AM → Option (Int32 × AM)) (v1 : Int32) (v2 : Int32) (v3 : Int32) (v4 : Int32) (M : AM) : Option (Int32 × AM) :=
  if v1 ≤ v4 then some (v3, M) else if v2 = 1 then ald 5 M 123 3 (fun x4 => bnd (f_Mo_gustyDusk v3 (x4 + v4) M) (fun r5 M6 => rec r5 (v4 + 1) M6)) else ald 5 M 123 3 (fun x1 => bnd (f_Mo_duskOf v3 (x1 + v4) M) (fun r2 M3 => rec r2 (v4 + 1) M3))
def f_Mo_will_l41 (v1 : Int32) (v2 : Int32) : Nat → Int32 → Int32 → AM → Option (Int32 × AM)
  | 0, _, _, _ => none
  | n + 1, v3, v4, M => f_Mo_will_b41 (f_Mo_will_l41 v1 v2 n) v1 v2 v3 v4 M
set_option maxRecDepth 20000 in
theorem t_Mo_will_b41 {G : GT} {d : Nat} {v1 : Int32} {v2 : Int32} {v3 : Int32} {v4 : Int32} {M : AM} {Q : AM → Option Value → Prop} {yo : Int32} {Mo : AM} {rec : Int32 → Int32 → AM → Option (Int32 × AM)} (hrec : ∀ (v3 : Int32) (v4 : Int32) (M : AM), WT M → rec v3 v4 M = some (yo, Mo) → PW G (d + 5) 264 41 [.ref 105, .int v1, .int v2, .int v3, .int v4] [] M 0 0 Q) (k1 : WT Mo → PW G (d + 5) 264 90 [ux, ux, ux, .int yo, ux] [] Mo 0 0 Q) (hW : WT M)   (hf : f_Mo_will_b41 rec v1 v2 v3 v4 M = some (yo, Mo)) : PW G (d + 5) 264 41 [.ref 105, .int v1, .int v2, .int v3, .int v4] [] M 0 0 Q := by
  refine P_iload d_264_41 rfl ?_
  refine P_iload_n d_264_43 rfl ?_
  refine A_icmp_ge (tgt := 90) d_264_44 rfl hf (fun hf => ?_) (fun hf => ?_)
  · refine P_fgt [false, false, false, true, false] ?_
    cases hf
    exact k1 hW 
  · refine P_iload_n d_264_47 rfl ?_
    refine A_iconst d_264_48 ic_1 ?_
    refine A_icmp_ne (tgt := 69) d_264_49 rfl hf (fun hf => ?_) (fun hf => ?_)
    · refine P_aload_n d_264_69 rfl ?_
      refine P_iload_n d_264_70 rfl ?_
      refine P_aload_n d_264_71 rfl ?_
      refine A_gF d_264_72 cn_264 fk_CordLoftModel_66 ft_13_50 k_105 hW ?_
      refine A_iconst d_264_75 ic_3 ?_
      refine A_iald d_264_76 k_123 l_123 hW hf (fun hf => ?_)
      refine P_iload d_264_77 rfl ?_
      refine P_iadd d_264_79 ?_
      refine A_V2 d_264_80 vk_264_417 ml_257 rfl k_105 hW rfl hf (fun r2 M3 hc hf => t_Mo_duskOf hW  hc (fun hW => ?_))
      refine A_istore_n d_264_83 ml_264 rfl rfl ?_
      refine A_iinc d_264_84 ic_1 rfl ml_264 rfl rfl ?_
      refine P_goto (tgt := 41) d_264_87 rfl ?_
      exact hrec _ _ _ hW  hf
    · refine P_aload_n d_264_52 rfl ?_
      refine P_iload_n d_264_53 rfl ?_
      refine P_aload_n d_264_54 rfl ?_
      refine A_gF d_264_55 cn_264 fk_CordLoftModel_66 ft_13_50 k_105 hW ?_
      refine A_iconst d_264_58 ic_3 ?_
      refine A_iald d_264_59 k_123 l_123 hW hf (fun hf => ?_)
      refine P_iload d_264_60 rfl ?_
      refine P_iadd d_264_62 ?_
      refine A_V2 d_264_63 vk_264_423 ml_256 rfl k_105 hW rfl hf (fun r5 M6 hc hf => t_Mo_gustyDusk hW  hc (fun hW => ?_))
      refine P_goto (tgt := 83) d_264_66 rfl ?_
      refine A_istore_n d_264_83 ml_264 rfl rfl ?_
      refine A_iinc d_264_84 ic_1 rfl ml_264 rfl rfl ?_
      refine P_goto (tgt := 41) d_264_87 rfl ?_
      exact hrec _ _ _ hW  hf
theorem t_Mo_will_l41 {G : GT} {d : Nat} {v1 : Int32} {v2 : Int32} {Q : AM → Option Value → Prop} {yo : Int32} {Mo : AM} (k1 : WT Mo → PW G (d + 5) 264 90 [ux, ux, ux, .int yo, ux] [] Mo 0 0 Q)  : ∀ (z : Nat) (v3 : Int32) (v4 : Int32) (M : AM), WT M → f_Mo_will_l41 v1 v2 z v3 v4 M = some (yo, Mo) → PW G (d + 5) 264 41 [.ref 105, .int v1, .int v2, .int v3, .int v4] [] M 0 0 Q := by
  intro z
  induction z with
  | zero => intro v3 v4 M hW hf; cases hf
  | succ z ih => intro v3 v4 M hW hf; exact t_Mo_will_b41 (fun v3 v4 M hW hf => ih v3 v4 M hW hf) k1 hW   hf
def f_Mo_will (a1 : Int32) (a2 : Int32) (M : AM) : Option (Int32 × AM) :=
  bnd (f_Mo_isIn a1 0 60 M) (fun r1 M2 => if r1 = 0 then some ((-1), M2) else bnd (f_Mo_isIn a2 0 1 M2) (fun r3 M4 => if r3 = 0 then some ((-1), M4) else ald 5 M4 123 0 (fun x5 => ald 5 M4 123 4 (fun x6 => wI M4 105 54 x6 (fun M7 => bnd (f_Mo_will_l41 a1 a2 fu x5 0 M7) (fun y8 M9 => some (y8, M9)))))))
set_option maxRecDepth 20000 in
theorem t_Mo_will {G : GT} {d : Nat} {a1 : Int32} {a2 : Int32} {M : AM} {Q : AM → Option Value → Prop} {r : Int32} {M' : AM} (hW : WT M)  (hf : f_Mo_will a1 a2 M = some (r, M')) (k : WT M' → Q M' (some (.int r)))  : Cal G (d + 5) 264 [.ref 105, .int a1, .int a2] M Q := by
  refine A_enter ml_264 rfl ?_
  refine P_iload_n d_264_0 rfl ?_
  refine A_iconst d_264_1 ic_0 ?_
  refine P_bipush d_264_2 bi_60 ?_
  refine A_S3 d_264_4 sk_264_399 ml_243 rfl rfl hf (fun r1 M2 hc hf => t_Mo_isIn hW  hc (fun hW hb2 => ?_))
  refine A_if_eq (tgt := 19) d_264_7 rfl hf (fun hf => ?_) (fun hf => ?_)
  · refine A_iconst d_264_19 ic_m1 ?_
    exact A_iret d_264_20 mr_264 hW hf k
  · refine P_iload_n d_264_10 rfl ?_
    refine A_iconst d_264_11 ic_0 ?_
    refine A_iconst d_264_12 ic_1 ?_
    refine A_S3 d_264_13 sk_264_399 ml_243 rfl rfl hf (fun r3 M4 hc hf => t_Mo_isIn hW  hc (fun hW hb4 => ?_))
    refine A_if_ne (tgt := 21) d_264_16 rfl hf (fun hf => ?_) (fun hf => ?_)
    · refine P_aload_n d_264_21 rfl ?_
      refine A_gF d_264_22 cn_264 fk_CordLoftModel_66 ft_13_50 k_105 hW ?_
      refine A_iconst d_264_25 ic_0 ?_
      refine A_iald d_264_26 k_123 l_123 hW hf (fun hf => ?_)
      refine A_istore_n d_264_27 ml_264 rfl rfl ?_
      refine P_aload_n d_264_28 rfl ?_
      refine P_aload_n d_264_29 rfl ?_
      refine A_gF d_264_30 cn_264 fk_CordLoftModel_66 ft_13_50 k_105 hW ?_
      refine A_iconst d_264_33 ic_4 ?_
      refine A_iald d_264_34 k_123 l_123 hW hf (fun hf => ?_)
      refine A_pI d_264_35 cn_264 fp_CordLoftModel_420 k_105 hW hf (fun hW hf => ?_)
      refine A_iconst d_264_38 ic_0 ?_
      refine A_istore d_264_39 ml_264 rfl rfl ?_
      obtain ⟨y8, M9, hl, hf⟩ := bnd_some hf
      refine t_Mo_will_l41 (fun hW => ?_)  fu _ _ _ hW  hl
      refine P_iload_n d_264_90 rfl ?_
      exact A_iret d_264_91 mr_264 hW hf k
    · refine A_iconst d_264_19 ic_m1 ?_
      exact A_iret d_264_20 mr_264 hW hf k
def f_Mo_isPicture (a1 : Int32) (M : AM) : Option (Int32 × AM) :=
  bnd (f_Mo_isIn a1 0 (((1 : Int32) <<< ((gI M 105 41) &&& 31)) - 1) M) (fun r1 M2 => some (r1, M2))
set_option maxRecDepth 20000 in
theorem t_Mo_isPicture {G : GT} {d : Nat} {a1 : Int32} {M : AM} {Q : AM → Option Value → Prop} {r : Int32} {M' : AM} (hW : WT M)  (hf : f_Mo_isPicture a1 M = some (r, M')) (k : WT M' → (r = 0 ∨ r = 1) → Q M' (some (.int r)))  : Cal G (d + 1) 266 [.ref 105, .int a1] M Q := by
  refine A_enter ml_266 rfl ?_
  refine P_iload_n d_266_0 rfl ?_
  refine A_iconst d_266_1 ic_0 ?_
  refine A_iconst d_266_2 ic_1 ?_
  refine P_aload_n d_266_3 rfl ?_
  refine A_gI d_266_4 cn_266 fk_CordLoftModel_303 k_105 hW ?_
  refine P_ishl d_266_7 ?_
  refine A_iconst d_266_8 ic_1 ?_
  refine P_isub d_266_9 ?_
  refine A_S3 d_266_10 sk_266_399 ml_243 rfl rfl hf (fun r1 M2 hc hf => t_Mo_isIn hW  hc (fun hW hb2 => ?_))
  exact A_zret d_266_13 mr_266 hW hb2 hf k
def f_Mo_free  (M : AM) : Option (Int32 × AM) :=
  ald 5 M 123 1 (fun x1 => some ((((1 : Int32) <<< ((gI M 105 42) &&& 31)) - 1) &&& (x1 ^^^ (-1)), M))
set_option maxRecDepth 20000 in
theorem t_Mo_free {G : GT} {d : Nat}  {M : AM} {Q : AM → Option Value → Prop} {r : Int32} {M' : AM} (hW : WT M)  (hf : f_Mo_free  M = some (r, M')) (k : WT M' → Q M' (some (.int r)))  : Cal G d 268 [.ref 105] M Q := by
  refine A_enter ml_268 rfl ?_
  refine A_iconst d_268_0 ic_1 ?_
  refine P_aload_n d_268_1 rfl ?_
  refine A_gI d_268_2 cn_268 fk_CordLoftModel_369 k_105 hW ?_
  refine P_ishl d_268_5 ?_
  refine A_iconst d_268_6 ic_1 ?_
  refine P_isub d_268_7 ?_
  refine P_aload_n d_268_8 rfl ?_
  refine A_gF d_268_9 cn_268 fk_CordLoftModel_66 ft_13_50 k_105 hW ?_
  refine A_iconst d_268_12 ic_1 ?_
  refine A_iald d_268_13 k_123 l_123 hW hf (fun hf => ?_)
  refine A_iconst d_268_14 ic_m1 ?_
  refine P_ixor d_268_15 ?_
  refine P_iand d_268_16 ?_
  exact A_iret d_268_17 mr_268 hW hf k
def f_Mo_isWithin (a0 : Int32) (a1 : Int32) (M : AM) : Option (Int32 × AM) :=
  if (a0 &&& (a1 ^^^ (-1))) = 0 then some (1, M) else some (0, M)
set_option maxRecDepth 20000 in
theorem t_Mo_isWithin {G : GT} {d : Nat} {a0 : Int32} {a1 : Int32} {M : AM} {Q : AM → Option Value → Prop} {r : Int32} {M' : AM} (hW : WT M)  (hf : f_Mo_isWithin a0 a1 M = some (r, M')) (k : WT M' → (r = 0 ∨ r = 1) → Q M' (some (.int r)))  : Cal G d 269 [.int a0, .int a1] M Q := by
  refine A_enter ml_269 rfl ?_
  refine P_iload_n d_269_0 rfl ?_
  refine P_iload_n d_269_1 rfl ?_
  refine A_iconst d_269_2 ic_m1 ?_
  refine P_ixor d_269_3 ?_
  refine P_iand d_269_4 ?_
  refine A_if_ne (tgt := 12) d_269_5 rfl hf (fun hf => ?_) (fun hf => ?_)
  · refine A_iconst d_269_12 ic_0 ?_
    exact A_zret d_269_13 mr_269 hW (Or.inl rfl) hf k
  · refine A_iconst d_269_8 ic_1 ?_
    refine P_goto (tgt := 13) d_269_9 rfl ?_
    exact A_zret d_269_13 mr_269 hW (Or.inr rfl) hf k
def f_Mo_turnedBy_b4 (rec : Int32 → Int32 → AM → Option (Int32 × AM)) (v1 : Int32) (v2 : Int32) (v3 : Int32) (M : AM) : Option (Int32 × AM) :=
  if (gI M 105 42) ≤ v3 then some (v2, M) else bnd (f_Mo_has v1 v3 M) (fun r1 M2 => if r1 = 0 then rec (v2 ^^^ 0) (v3 + 1) M2 else ald 8 M2 121 v3 (fun x3 => rec (v2 ^^^ x3) (v3 + 1) M2))
def f_Mo_turnedBy_l4 (v1 : Int32) : Nat → Int32 → Int32 → AM → Option (Int32 × AM)
  | 0, _, _, _ => none
  | n + 1, v2, v3, M => f_Mo_turnedBy_b4 (f_Mo_turnedBy_l4 v1 n) v1 v2 v3 M
set_option maxRecDepth 20000 in
theorem t_Mo_turnedBy_b4 {G : GT} {d : Nat} {v1 : Int32} {v2 : Int32} {v3 : Int32} {M : AM} {Q : AM → Option Value → Prop} {yo : Int32} {Mo : AM} {rec : Int32 → Int32 → AM → Option (Int32 × AM)} (hrec : ∀ (v2 : Int32) (v3 : Int32) (M : AM), WT M → rec v2 v3 M = some (yo, Mo) → PW G (d + 1) 270 4 [.ref 105, .int v1, .int v2, .int v3] [] M 0 0 Q) (k1 : WT Mo → PW G (d + 1) 270 39 [ux, ux, .int yo, ux] [] Mo 0 0 Q) (hW : WT M)   (hf : f_Mo_turnedBy_b4 rec v1 v2 v3 M = some (yo, Mo)) : PW G (d + 1) 270 4 [.ref 105, .int v1, .int v2, .int v3] [] M 0 0 Q := by
  refine P_iload_n d_270_4 rfl ?_
  refine P_aload_n d_270_5 rfl ?_
  refine A_gI d_270_6 cn_270 fk_CordLoftModel_369 k_105 hW ?_
  refine A_icmp_ge (tgt := 39) d_270_9 rfl hf (fun hf => ?_) (fun hf => ?_)
  · refine P_fgt [false, false, true, false] ?_
    cases hf
    exact k1 hW 
  · refine P_iload_n d_270_12 rfl ?_
    refine P_iload_n d_270_13 rfl ?_
    refine P_iload_n d_270_14 rfl ?_
    refine A_S2 d_270_15 sk_270_326 ml_225 rfl rfl hf (fun r1 M2 hc hf => t_Mo_has hW  hc (fun hW hb2 => ?_))
    refine A_if_eq (tgt := 30) d_270_18 rfl hf (fun hf => ?_) (fun hf => ?_)
    · refine A_iconst d_270_30 ic_0 ?_
      refine P_ixor d_270_31 ?_
      refine A_istore_n d_270_32 ml_270 rfl rfl ?_
      refine A_iinc d_270_33 ic_1 rfl ml_270 rfl rfl ?_
      refine P_goto (tgt := 4) d_270_36 rfl ?_
      exact hrec _ _ _ hW  hf
    · refine P_aload_n d_270_21 rfl ?_
      refine A_gF d_270_22 cn_270 fk_CordLoftModel_60 ft_13_33 k_105 hW ?_
      refine P_iload_n d_270_25 rfl ?_
      refine A_iald d_270_26 k_121 l_121 hW hf (fun hf => ?_)
      refine P_goto (tgt := 31) d_270_27 rfl ?_
      refine P_ixor d_270_31 ?_
      refine A_istore_n d_270_32 ml_270 rfl rfl ?_
      refine A_iinc d_270_33 ic_1 rfl ml_270 rfl rfl ?_
      refine P_goto (tgt := 4) d_270_36 rfl ?_
      exact hrec _ _ _ hW  hf
theorem t_Mo_turnedBy_l4 {G : GT} {d : Nat} {v1 : Int32} {Q : AM → Option Value → Prop} {yo : Int32} {Mo : AM} (k1 : WT Mo → PW G (d + 1) 270 39 [ux, ux, .int yo, ux] [] Mo 0 0 Q)  : ∀ (z : Nat) (v2 : Int32) (v3 : Int32) (M : AM), WT M → f_Mo_turnedBy_l4 v1 z v2 v3 M = some (yo, Mo) → PW G (d + 1) 270 4 [.ref 105, .int v1, .int v2, .int v3] [] M 0 0 Q := by
  intro z
  induction z with
  | zero => intro v2 v3 M hW hf; cases hf
  | succ z ih => intro v2 v3 M hW hf; exact t_Mo_turnedBy_b4 (fun v2 v3 M hW hf => ih v2 v3 M hW hf) k1 hW   hf
def f_Mo_turnedBy (a1 : Int32) (M : AM) : Option (Int32 × AM) :=
  bnd (f_Mo_turnedBy_l4 a1 fu 0 0 M) (fun y1 M2 => some (y1, M2))
set_option maxRecDepth 20000 in
theorem t_Mo_turnedBy {G : GT} {d : Nat} {a1 : Int32} {M : AM} {Q : AM → Option Value → Prop} {r : Int32} {M' : AM} (hW : WT M)  (hf : f_Mo_turnedBy a1 M = some (r, M')) (k : WT M' → Q M' (some (.int r)))  : Cal G (d + 1) 270 [.ref 105, .int a1] M Q := by
  refine A_enter ml_270 rfl ?_
  refine A_iconst d_270_0 ic_0 ?_
  refine A_istore_n d_270_1 ml_270 rfl rfl ?_
  refine A_iconst d_270_2 ic_0 ?_
  refine A_istore_n d_270_3 ml_270 rfl rfl ?_
  obtain ⟨y1, M2, hl, hf⟩ := bnd_some hf
  refine t_Mo_turnedBy_l4 (fun hW => ?_)  fu _ _ _ hW  hl
  refine P_iload_n d_270_39 rfl ?_
  exact A_iret d_270_40 mr_270 hW hf k
def f_Mo_waysTo_j45 (rec : Int32 → Int32 → AM → Option (Int32 × AM)) (v1 : Int32) (v3 : Int32) (s0 : Int32) (s1 : Int32) (M : AM) : Option (Int32 × AM) :=
  bnd (f_Mo_truth s1 M) (fun r1 M2 => rec (s0 + r1) (v3 + 1) M2)
set_option maxRecDepth 20000 in
theorem t_Mo_waysTo_j45 {G : GT} {d : Nat} {v1 : Int32} {v3 : Int32} {s0 : Int32} {s1 : Int32} {M : AM} {Q : AM → Option Value → Prop} {yo : Int32} {Mo : AM} {rec : Int32 → Int32 → AM → Option (Int32 × AM)} (hrec : ∀ (v2 : Int32) (v3 : Int32) (M : AM), WT M → rec v2 v3 M = some (yo, Mo) → PW G (d + 2) 267 4 [.ref 105, .int v1, .int v2, .int v3] [] M 0 0 Q) (k1 : WT Mo → PW G (d + 2) 267 56 [ux, ux, .int yo, ux] [] Mo 0 0 Q) (hW : WT M)  (hf : f_Mo_waysTo_j45 rec v1 v3 s0 s1 M = some (yo, Mo)) : PW G (d + 2) 267 45 [.ref 105, .int v1, ux, .int v3] [.int s1, .int s0] M 0 0 Q := by
  refine A_S1 d_267_45 sk_267_283 ml_259 rfl rfl hf (fun r1 M2 hc hf => t_Mo_truth hW  hc (fun hW => ?_))
  refine P_iadd d_267_48 ?_
  refine A_istore_n d_267_49 ml_267 rfl rfl ?_
  refine A_iinc d_267_50 ic_1 rfl ml_267 rfl rfl ?_
  refine P_goto (tgt := 4) d_267_53 rfl ?_
  exact hrec _ _ _ hW  hf
def f_Mo_waysTo_j44 (rec : Int32 → Int32 → AM → Option (Int32 × AM)) (v1 : Int32) (v3 : Int32) (s0 : Int32) (M : AM) : Option (Int32 × AM) :=
  f_Mo_waysTo_j45 rec v1 v3 s0 0 M
set_option maxRecDepth 20000 in
theorem t_Mo_waysTo_j44 {G : GT} {d : Nat} {v1 : Int32} {v3 : Int32} {s0 : Int32} {M : AM} {Q : AM → Option Value → Prop} {yo : Int32} {Mo : AM} {rec : Int32 → Int32 → AM → Option (Int32 × AM)} (hrec : ∀ (v2 : Int32) (v3 : Int32) (M : AM), WT M → rec v2 v3 M = some (yo, Mo) → PW G (d + 2) 267 4 [.ref 105, .int v1, .int v2, .int v3] [] M 0 0 Q) (k1 : WT Mo → PW G (d + 2) 267 56 [ux, ux, .int yo, ux] [] Mo 0 0 Q) (hW : WT M)  (hf : f_Mo_waysTo_j44 rec v1 v3 s0 M = some (yo, Mo)) : PW G (d + 2) 267 44 [.ref 105, .int v1, ux, .int v3] [.int s0] M 0 0 Q := by
  refine A_iconst d_267_44 ic_0 ?_
  exact t_Mo_waysTo_j45 hrec k1 hW  hf
def f_Mo_waysTo_b4 (rec : Int32 → Int32 → AM → Option (Int32 × AM)) (v1 : Int32) (v2 : Int32) (v3 : Int32) (M : AM) : Option (Int32 × AM) :=
  bnd (f_Mo_free  M) (fun r1 M2 => if r1 < v3 then some (v2, M2) else bnd (f_Mo_free  M2) (fun r3 M4 => bnd (f_Mo_isWithin v3 r3 M4) (fun r5 M6 => if r5 = 0 then f_Mo_waysTo_j44 rec v1 v3 v2 M6 else ald 5 M6 123 0 (fun x7 => bnd (f_Mo_turnedBy v3 M6) (fun r8 M9 => if (x7 ^^^ r8) = v1 then f_Mo_waysTo_j45 rec v1 v3 v2 1 M9 else f_Mo_waysTo_j44 rec v1 v3 v2 M9)))))
def f_Mo_waysTo_l4 (v1 : Int32) : Nat → Int32 → Int32 → AM → Option (Int32 × AM)
  | 0, _, _, _ => none
  | n + 1, v2, v3, M => f_Mo_waysTo_b4 (f_Mo_waysTo_l4 v1 n) v1 v2 v3 M
set_option maxRecDepth 20000 in
theorem t_Mo_waysTo_b4 {G : GT} {d : Nat} {v1 : Int32} {v2 : Int32} {v3 : Int32} {M : AM} {Q : AM → Option Value → Prop} {yo : Int32} {Mo : AM} {rec : Int32 → Int32 → AM → Option (Int32 × AM)} (hrec : ∀ (v2 : Int32) (v3 : Int32) (M : AM), WT M → rec v2 v3 M = some (yo, Mo) → PW G (d + 2) 267 4 [.ref 105, .int v1, .int v2, .int v3] [] M 0 0 Q) (k1 : WT Mo → PW G (d + 2) 267 56 [ux, ux, .int yo, ux] [] Mo 0 0 Q) (hW : WT M)   (hf : f_Mo_waysTo_b4 rec v1 v2 v3 M = some (yo, Mo)) : PW G (d + 2) 267 4 [.ref 105, .int v1, .int v2, .int v3] [] M 0 0 Q := by
  refine P_iload_n d_267_4 rfl ?_
  refine P_aload_n d_267_5 rfl ?_
  refine A_V0 d_267_6 vk_267_429 ml_268 rfl k_105 hW rfl hf (fun r1 M2 hc hf => t_Mo_free hW  hc (fun hW => ?_))
  refine A_icmp_gt (tgt := 56) d_267_9 rfl hf (fun hf => ?_) (fun hf => ?_)
  · refine P_fgt [false, false, true, false] ?_
    cases hf
    exact k1 hW 
  · refine P_iload_n d_267_12 rfl ?_
    refine P_iload_n d_267_13 rfl ?_
    refine P_aload_n d_267_14 rfl ?_
    refine A_V0 d_267_15 vk_267_429 ml_268 rfl k_105 hW rfl hf (fun r3 M4 hc hf => t_Mo_free hW  hc (fun hW => ?_))
    refine A_S2 d_267_18 sk_267_432 ml_269 rfl rfl hf (fun r5 M6 hc hf => t_Mo_isWithin hW  hc (fun hW hb6 => ?_))
    refine A_if_eq (tgt := 44) d_267_21 rfl hf (fun hf => ?_) (fun hf => ?_)
    · refine P_fgt [true, true, false, true] ?_
      exact t_Mo_waysTo_j44 hrec k1 hW  hf
    · refine P_aload_n d_267_24 rfl ?_
      refine A_gF d_267_25 cn_267 fk_CordLoftModel_66 ft_13_50 k_105 hW ?_
      refine A_iconst d_267_28 ic_0 ?_
      refine A_iald d_267_29 k_123 l_123 hW hf (fun hf => ?_)
      refine P_aload_n d_267_30 rfl ?_
      refine P_iload_n d_267_31 rfl ?_
      refine A_V1 d_267_32 vk_267_435 ml_270 rfl k_105 hW rfl hf (fun r8 M9 hc hf => t_Mo_turnedBy hW  hc (fun hW => ?_))
      refine P_ixor d_267_35 ?_
      refine P_iload_n d_267_36 rfl ?_
      refine A_icmp_ne (tgt := 44) d_267_37 rfl hf (fun hf => ?_) (fun hf => ?_)
      · refine P_fgt [true, true, false, true] ?_
        exact t_Mo_waysTo_j44 hrec k1 hW  hf
      · refine A_iconst d_267_40 ic_1 ?_
        refine P_goto (tgt := 45) d_267_41 rfl ?_
        refine P_fgt [true, true, false, true] ?_
        exact t_Mo_waysTo_j45 hrec k1 hW  hf
theorem t_Mo_waysTo_l4 {G : GT} {d : Nat} {v1 : Int32} {Q : AM → Option Value → Prop} {yo : Int32} {Mo : AM} (k1 : WT Mo → PW G (d + 2) 267 56 [ux, ux, .int yo, ux] [] Mo 0 0 Q)  : ∀ (z : Nat) (v2 : Int32) (v3 : Int32) (M : AM), WT M → f_Mo_waysTo_l4 v1 z v2 v3 M = some (yo, Mo) → PW G (d + 2) 267 4 [.ref 105, .int v1, .int v2, .int v3] [] M 0 0 Q := by
  intro z
  induction z with
  | zero => intro v2 v3 M hW hf; cases hf
  | succ z ih => intro v2 v3 M hW hf; exact t_Mo_waysTo_b4 (fun v2 v3 M hW hf => ih v2 v3 M hW hf) k1 hW   hf
def f_Mo_waysTo (a1 : Int32) (M : AM) : Option (Int32 × AM) :=
  bnd (f_Mo_waysTo_l4 a1 fu 0 0 M) (fun y1 M2 => some (y1, M2))
set_option maxRecDepth 20000 in
theorem t_Mo_waysTo {G : GT} {d : Nat} {a1 : Int32} {M : AM} {Q : AM → Option Value → Prop} {r : Int32} {M' : AM} (hW : WT M)  (hf : f_Mo_waysTo a1 M = some (r, M')) (k : WT M' → Q M' (some (.int r)))  : Cal G (d + 2) 267 [.ref 105, .int a1] M Q := by
  refine A_enter ml_267 rfl ?_
  refine A_iconst d_267_0 ic_0 ?_
  refine A_istore_n d_267_1 ml_267 rfl rfl ?_
  refine A_iconst d_267_2 ic_0 ?_
  refine A_istore_n d_267_3 ml_267 rfl rfl ?_
  obtain ⟨y1, M2, hl, hf⟩ := bnd_some hf
  refine t_Mo_waysTo_l4 (fun hW => ?_)  fu _ _ _ hW  hl
  refine P_iload_n d_267_56 rfl ?_
  exact A_iret d_267_57 mr_267 hW hf k
def f_Mo_can_j21 (s0 : Int32) (M : AM) : Option (Int32 × AM) :=
  bnd (f_Mo_truth s0 M) (fun r1 M2 => some (r1, M2))
set_option maxRecDepth 20000 in
theorem t_Mo_can_j21 {G : GT} {d : Nat} {s0 : Int32} {M : AM} {Q : AM → Option Value → Prop} {r : Int32} {M' : AM} (k : WT M' → Q M' (some (.int r))) (hW : WT M)  (hf : f_Mo_can_j21 s0 M = some (r, M')) : PW G (d + 3) 265 21 [ux, ux] [.int s0] M 0 0 Q := by
  refine A_S1 d_265_21 sk_265_283 ml_259 rfl rfl hf (fun r1 M2 hc hf => t_Mo_truth hW  hc (fun hW => ?_))
  refine P_goto (tgt := 28) d_265_24 rfl ?_
  exact A_iret d_265_28 mr_265 hW hf k
def f_Mo_can (a1 : Int32) (M : AM) : Option (Int32 × AM) :=
  bnd (f_Mo_isPicture a1 M) (fun r1 M2 => if r1 = 0 then some ((-1), M2) else bnd (f_Mo_waysTo a1 M2) (fun r3 M4 => if r3 ≤ 0 then f_Mo_can_j21 0 M4 else f_Mo_can_j21 1 M4))
set_option maxRecDepth 20000 in
theorem t_Mo_can {G : GT} {d : Nat} {a1 : Int32} {M : AM} {Q : AM → Option Value → Prop} {r : Int32} {M' : AM} (hW : WT M)  (hf : f_Mo_can a1 M = some (r, M')) (k : WT M' → Q M' (some (.int r)))  : Cal G (d + 3) 265 [.ref 105, .int a1] M Q := by
  refine A_enter ml_265 rfl ?_
  refine P_aload_n d_265_0 rfl ?_
  refine P_iload_n d_265_1 rfl ?_
  refine A_V1 d_265_2 vk_265_438 ml_266 rfl k_105 hW rfl hf (fun r1 M2 hc hf => t_Mo_isPicture hW  hc (fun hW hb2 => ?_))
  refine A_if_eq (tgt := 27) d_265_5 rfl hf (fun hf => ?_) (fun hf => ?_)
  · refine A_iconst d_265_27 ic_m1 ?_
    exact A_iret d_265_28 mr_265 hW hf k
  · refine P_aload_n d_265_8 rfl ?_
    refine P_iload_n d_265_9 rfl ?_
    refine A_V1 d_265_10 vk_265_441 ml_267 rfl k_105 hW rfl hf (fun r3 M4 hc hf => t_Mo_waysTo hW  hc (fun hW => ?_))
    refine A_if_le (tgt := 20) d_265_13 rfl hf (fun hf => ?_) (fun hf => ?_)
    · refine A_iconst d_265_20 ic_0 ?_
      refine P_fgt [false, false] ?_
      exact t_Mo_can_j21 k hW  hf
    · refine A_iconst d_265_16 ic_1 ?_
      refine P_goto (tgt := 21) d_265_17 rfl ?_
      refine P_fgt [false, false] ?_
      exact t_Mo_can_j21 k hW  hf
def f_Mo_ways (a1 : Int32) (M : AM) : Option (Int32 × AM) :=
  bnd (f_Mo_isPicture a1 M) (fun r1 M2 => if r1 = 0 then some ((-1), M2) else bnd (f_Mo_waysTo a1 M2) (fun r3 M4 => some (r3, M4)))
set_option maxRecDepth 20000 in
theorem t_Mo_ways {G : GT} {d : Nat} {a1 : Int32} {M : AM} {Q : AM → Option Value → Prop} {r : Int32} {M' : AM} (hW : WT M)  (hf : f_Mo_ways a1 M = some (r, M')) (k : WT M' → Q M' (some (.int r)))  : Cal G (d + 3) 271 [.ref 105, .int a1] M Q := by
  refine A_enter ml_271 rfl ?_
  refine P_aload_n d_271_0 rfl ?_
  refine P_iload_n d_271_1 rfl ?_
  refine A_V1 d_271_2 vk_271_438 ml_266 rfl k_105 hW rfl hf (fun r1 M2 hc hf => t_Mo_isPicture hW  hc (fun hW hb2 => ?_))
  refine A_if_eq (tgt := 16) d_271_5 rfl hf (fun hf => ?_) (fun hf => ?_)
  · refine A_iconst d_271_16 ic_m1 ?_
    exact A_iret d_271_17 mr_271 hW hf k
  · refine P_aload_n d_271_8 rfl ?_
    refine P_iload_n d_271_9 rfl ?_
    refine A_V1 d_271_10 vk_271_441 ml_267 rfl k_105 hW rfl hf (fun r3 M4 hc hf => t_Mo_waysTo hW  hc (fun hW => ?_))
    refine P_goto (tgt := 17) d_271_13 rfl ?_
    exact A_iret d_271_17 mr_271 hW hf k
def f_Mo_fewestFor_b13 (rec : Int32 → Int32 → AM → Option (Int32 × AM)) (v1 : Int32) (v3 : Int32) (v4 : Int32) (M : AM) : Option (Int32 × AM) :=
  bnd (f_Mo_free  M) (fun r1 M2 => if r1 < v4 then some (v3, M2) else bnd (f_Mo_free  M2) (fun r3 M4 => bnd (f_Mo_isWithin v4 r3 M4) (fun r5 M6 => if r5 = 0 then rec v3 (v4 + 1) M6 else bnd (f_Mo_turnedBy v4 M6) (fun r7 M8 => if r7 = v1 then if v3 < 0 then rec v4 (v4 + 1) M8 else bnd (f_Mo_members v4 M8) (fun r9 M10 => bnd (f_Mo_members v3 M10) (fun r11 M12 => if r11 ≤ r9 then rec v3 (v4 + 1) M12 else rec v4 (v4 + 1) M12)) else rec v3 (v4 + 1) M8))))
def f_Mo_fewestFor_l13 (v1 : Int32) : Nat → Int32 → Int32 → AM → Option (Int32 × AM)
  | 0, _, _, _ => none
  | n + 1, v3, v4, M => f_Mo_fewestFor_b13 (f_Mo_fewestFor_l13 v1 n) v1 v3 v4 M
set_option maxRecDepth 20000 in
theorem t_Mo_fewestFor_b13 {G : GT} {d : Nat} {v1 : Int32} {v3 : Int32} {v4 : Int32} {M : AM} {Q : AM → Option Value → Prop} {yo : Int32} {Mo : AM} {rec : Int32 → Int32 → AM → Option (Int32 × AM)} (hrec : ∀ (v3 : Int32) (v4 : Int32) (M : AM), WT M → rec v3 v4 M = some (yo, Mo) → PW G (d + 2) 273 13 [.ref 105, .int v1, ux, .int v3, .int v4] [] M 0 0 Q) (k1 : WT Mo → PW G (d + 2) 273 69 [ux, ux, ux, .int yo, ux] [] Mo 0 0 Q) (hW : WT M)   (hf : f_Mo_fewestFor_b13 rec v1 v3 v4 M = some (yo, Mo)) : PW G (d + 2) 273 13 [.ref 105, .int v1, ux, .int v3, .int v4] [] M 0 0 Q := by
  refine P_iload d_273_13 rfl ?_
  refine P_aload_n d_273_15 rfl ?_
  refine A_V0 d_273_16 vk_273_429 ml_268 rfl k_105 hW rfl hf (fun r1 M2 hc hf => t_Mo_free hW  hc (fun hW => ?_))
  refine A_icmp_gt (tgt := 69) d_273_19 rfl hf (fun hf => ?_) (fun hf => ?_)
  · refine P_fgt [false, false, false, true, false] ?_
    cases hf
    exact k1 hW 
  · refine P_iload d_273_22 rfl ?_
    refine P_aload_n d_273_24 rfl ?_
    refine A_V0 d_273_25 vk_273_429 ml_268 rfl k_105 hW rfl hf (fun r3 M4 hc hf => t_Mo_free hW  hc (fun hW => ?_))
    refine A_S2 d_273_28 sk_273_432 ml_269 rfl rfl hf (fun r5 M6 hc hf => t_Mo_isWithin hW  hc (fun hW hb6 => ?_))
    refine A_if_eq (tgt := 63) d_273_31 rfl hf (fun hf => ?_) (fun hf => ?_)
    · refine A_iinc d_273_63 ic_1 rfl ml_273 rfl rfl ?_
      refine P_goto (tgt := 13) d_273_66 rfl ?_
      exact hrec _ _ _ hW  hf
    · refine P_aload_n d_273_34 rfl ?_
      refine P_iload d_273_35 rfl ?_
      refine A_V1 d_273_37 vk_273_435 ml_270 rfl k_105 hW rfl hf (fun r7 M8 hc hf => t_Mo_turnedBy hW  hc (fun hW => ?_))
      refine P_iload_n d_273_40 rfl ?_
      refine A_icmp_ne (tgt := 63) d_273_41 rfl hf (fun hf => ?_) (fun hf => ?_)
      · refine A_iinc d_273_63 ic_1 rfl ml_273 rfl rfl ?_
        refine P_goto (tgt := 13) d_273_66 rfl ?_
        exact hrec _ _ _ hW  hf
      · refine P_iload_n d_273_44 rfl ?_
        refine A_if_lt (tgt := 60) d_273_45 rfl hf (fun hf => ?_) (fun hf => ?_)
        · refine P_iload d_273_60 rfl ?_
          refine A_istore_n d_273_62 ml_273 rfl rfl ?_
          refine A_iinc d_273_63 ic_1 rfl ml_273 rfl rfl ?_
          refine P_goto (tgt := 13) d_273_66 rfl ?_
          exact hrec _ _ _ hW  hf
        · refine P_iload d_273_48 rfl ?_
          refine A_S1 d_273_50 sk_273_290 ml_250 rfl rfl hf (fun r9 M10 hc hf => t_Mo_members hW  hc (fun hW => ?_))
          refine P_iload_n d_273_53 rfl ?_
          refine A_S1 d_273_54 sk_273_290 ml_250 rfl rfl hf (fun r11 M12 hc hf => t_Mo_members hW  hc (fun hW => ?_))
          refine A_icmp_ge (tgt := 63) d_273_57 rfl hf (fun hf => ?_) (fun hf => ?_)
          · refine A_iinc d_273_63 ic_1 rfl ml_273 rfl rfl ?_
            refine P_goto (tgt := 13) d_273_66 rfl ?_
            exact hrec _ _ _ hW  hf
          · refine P_iload d_273_60 rfl ?_
            refine A_istore_n d_273_62 ml_273 rfl rfl ?_
            refine A_iinc d_273_63 ic_1 rfl ml_273 rfl rfl ?_
            refine P_goto (tgt := 13) d_273_66 rfl ?_
            exact hrec _ _ _ hW  hf
theorem t_Mo_fewestFor_l13 {G : GT} {d : Nat} {v1 : Int32} {Q : AM → Option Value → Prop} {yo : Int32} {Mo : AM} (k1 : WT Mo → PW G (d + 2) 273 69 [ux, ux, ux, .int yo, ux] [] Mo 0 0 Q)  : ∀ (z : Nat) (v3 : Int32) (v4 : Int32) (M : AM), WT M → f_Mo_fewestFor_l13 v1 z v3 v4 M = some (yo, Mo) → PW G (d + 2) 273 13 [.ref 105, .int v1, ux, .int v3, .int v4] [] M 0 0 Q := by
  intro z
  induction z with
  | zero => intro v3 v4 M hW hf; cases hf
  | succ z ih => intro v3 v4 M hW hf; exact t_Mo_fewestFor_b13 (fun v3 v4 M hW hf => ih v3 v4 M hW hf) k1 hW   hf
def f_Mo_fewestFor_j11 (v1 : Int32) (v3 : Int32) (s0 : Int32) (M : AM) : Option (Int32 × AM) :=
  bnd (f_Mo_fewestFor_l13 v1 fu v3 s0 M) (fun y1 M2 => some (y1, M2))
set_option maxRecDepth 20000 in
theorem t_Mo_fewestFor_j11 {G : GT} {d : Nat} {v1 : Int32} {v3 : Int32} {s0 : Int32} {M : AM} {Q : AM → Option Value → Prop} {r : Int32} {M' : AM} (k : WT M' → Q M' (some (.int r))) (hW : WT M)  (hf : f_Mo_fewestFor_j11 v1 v3 s0 M = some (r, M')) : PW G (d + 2) 273 11 [.ref 105, .int v1, ux, .int v3, ux] [.int s0] M 0 0 Q := by
  refine A_istore d_273_11 ml_273 rfl rfl ?_
  obtain ⟨y1, M2, hl, hf⟩ := bnd_some hf
  refine t_Mo_fewestFor_l13 (fun hW => ?_)  fu _ _ _ hW  hl
  refine P_iload_n d_273_69 rfl ?_
  exact A_iret d_273_70 mr_273 hW hf k
def f_Mo_fewestFor (a1 : Int32) (a2 : Int32) (M : AM) : Option (Int32 × AM) :=
  if a2 = 0 then f_Mo_fewestFor_j11 a1 (-1) 0 M else f_Mo_fewestFor_j11 a1 (-1) 1 M
set_option maxRecDepth 20000 in
theorem t_Mo_fewestFor {G : GT} {d : Nat} {a1 : Int32} {a2 : Int32} {M : AM} {Q : AM → Option Value → Prop} {r : Int32} {M' : AM} (hW : WT M)  (hf : f_Mo_fewestFor a1 a2 M = some (r, M')) (k : WT M' → Q M' (some (.int r)))  : Cal G (d + 2) 273 [.ref 105, .int a1, .int a2] M Q := by
  refine A_enter ml_273 rfl ?_
  refine A_iconst d_273_0 ic_m1 ?_
  refine A_istore_n d_273_1 ml_273 rfl rfl ?_
  refine P_iload_n d_273_2 rfl ?_
  refine A_if_eq (tgt := 10) d_273_3 rfl hf (fun hf => ?_) (fun hf => ?_)
  · refine A_iconst d_273_10 ic_0 ?_
    refine P_fgt [true, true, false, true, false] ?_
    exact t_Mo_fewestFor_j11 k hW  hf
  · refine A_iconst d_273_6 ic_1 ?_
    refine P_goto (tgt := 11) d_273_7 rfl ?_
    refine P_fgt [true, true, false, true, false] ?_
    exact t_Mo_fewestFor_j11 k hW  hf
def f_Mo_fewest (a1 : Int32) (a2 : Int32) (M : AM) : Option (Int32 × AM) :=
  bnd (f_Mo_isPicture a1 M) (fun r1 M2 => if r1 = 0 then some ((-1), M2) else bnd (f_Mo_isIn a2 0 1 M2) (fun r3 M4 => if r3 = 0 then some ((-1), M4) else ald 5 M4 123 0 (fun x5 => bnd (f_Mo_fewestFor (x5 ^^^ a1) 0 M4) (fun r6 M7 => if 0 ≤ r6 then if a2 = 0 then bnd (f_Mo_members r6 M7) (fun r8 M9 => some (r8, M9)) else some (r6, M7) else some ((-1), M7)))))
set_option maxRecDepth 20000 in
theorem t_Mo_fewest {G : GT} {d : Nat} {a1 : Int32} {a2 : Int32} {M : AM} {Q : AM → Option Value → Prop} {r : Int32} {M' : AM} (hW : WT M)  (hf : f_Mo_fewest a1 a2 M = some (r, M')) (k : WT M' → Q M' (some (.int r)))  : Cal G (d + 3) 272 [.ref 105, .int a1, .int a2] M Q := by
  refine A_enter ml_272 rfl ?_
  refine P_aload_n d_272_0 rfl ?_
  refine P_iload_n d_272_1 rfl ?_
  refine A_V1 d_272_2 vk_272_438 ml_266 rfl k_105 hW rfl hf (fun r1 M2 hc hf => t_Mo_isPicture hW  hc (fun hW hb2 => ?_))
  refine A_if_eq (tgt := 17) d_272_5 rfl hf (fun hf => ?_) (fun hf => ?_)
  · refine A_iconst d_272_17 ic_m1 ?_
    exact A_iret d_272_18 mr_272 hW hf k
  · refine P_iload_n d_272_8 rfl ?_
    refine A_iconst d_272_9 ic_0 ?_
    refine A_iconst d_272_10 ic_1 ?_
    refine A_S3 d_272_11 sk_272_399 ml_243 rfl rfl hf (fun r3 M4 hc hf => t_Mo_isIn hW  hc (fun hW hb4 => ?_))
    refine A_if_ne (tgt := 19) d_272_14 rfl hf (fun hf => ?_) (fun hf => ?_)
    · refine P_aload_n d_272_19 rfl ?_
      refine P_aload_n d_272_20 rfl ?_
      refine A_gF d_272_21 cn_272 fk_CordLoftModel_66 ft_13_50 k_105 hW ?_
      refine A_iconst d_272_24 ic_0 ?_
      refine A_iald d_272_25 k_123 l_123 hW hf (fun hf => ?_)
      refine P_iload_n d_272_26 rfl ?_
      refine P_ixor d_272_27 ?_
      refine A_iconst d_272_28 ic_0 ?_
      refine A_V2 d_272_29 vk_272_444 ml_273 rfl k_105 hW rfl hf (fun r6 M7 hc hf => t_Mo_fewestFor hW  hc (fun hW => ?_))
      refine A_istore_n d_272_32 ml_272 rfl rfl ?_
      refine P_iload_n d_272_33 rfl ?_
      refine A_if_ge (tgt := 41) d_272_34 rfl hf (fun hf => ?_) (fun hf => ?_)
      · refine P_iload_n d_272_41 rfl ?_
        refine A_if_ne (tgt := 52) d_272_42 rfl hf (fun hf => ?_) (fun hf => ?_)
        · refine P_iload_n d_272_52 rfl ?_
          exact A_iret d_272_53 mr_272 hW hf k
        · refine P_iload_n d_272_45 rfl ?_
          refine A_S1 d_272_46 sk_272_290 ml_250 rfl rfl hf (fun r8 M9 hc hf => t_Mo_members hW  hc (fun hW => ?_))
          refine P_goto (tgt := 53) d_272_49 rfl ?_
          exact A_iret d_272_53 mr_272 hW hf k
      · refine A_iconst d_272_37 ic_m1 ?_
        refine P_goto (tgt := 53) d_272_38 rfl ?_
        exact A_iret d_272_53 mr_272 hW hf k
    · refine A_iconst d_272_17 ic_m1 ?_
      exact A_iret d_272_18 mr_272 hW hf k
def f_Mo_costOf_b4 (rec : Int32 → Int32 → AM → Option (Int32 × AM)) (v1 : Int32) (v2 : Int32) (v3 : Int32) (M : AM) : Option (Int32 × AM) :=
  if (gI M 105 42) ≤ v3 then some (v2, M) else bnd (f_Mo_has v1 v3 M) (fun r1 M2 => if r1 = 0 then rec (v2 + 0) (v3 + 1) M2 else ald 8 M2 122 v3 (fun x3 => rec (v2 + x3) (v3 + 1) M2))
def f_Mo_costOf_l4 (v1 : Int32) : Nat → Int32 → Int32 → AM → Option (Int32 × AM)
  | 0, _, _, _ => none
  | n + 1, v2, v3, M => f_Mo_costOf_b4 (f_Mo_costOf_l4 v1 n) v1 v2 v3 M
set_option maxRecDepth 20000 in
theorem t_Mo_costOf_b4 {G : GT} {d : Nat} {v1 : Int32} {v2 : Int32} {v3 : Int32} {M : AM} {Q : AM → Option Value → Prop} {yo : Int32} {Mo : AM} {rec : Int32 → Int32 → AM → Option (Int32 × AM)} (hrec : ∀ (v2 : Int32) (v3 : Int32) (M : AM), WT M → rec v2 v3 M = some (yo, Mo) → PW G (d + 1) 276 4 [.ref 105, .int v1, .int v2, .int v3] [] M 0 0 Q) (k1 : WT Mo → PW G (d + 1) 276 39 [ux, ux, .int yo, ux] [] Mo 0 0 Q) (hW : WT M)   (hf : f_Mo_costOf_b4 rec v1 v2 v3 M = some (yo, Mo)) : PW G (d + 1) 276 4 [.ref 105, .int v1, .int v2, .int v3] [] M 0 0 Q := by
  refine P_iload_n d_276_4 rfl ?_
  refine P_aload_n d_276_5 rfl ?_
  refine A_gI d_276_6 cn_276 fk_CordLoftModel_369 k_105 hW ?_
  refine A_icmp_ge (tgt := 39) d_276_9 rfl hf (fun hf => ?_) (fun hf => ?_)
  · refine P_fgt [false, false, true, false] ?_
    cases hf
    exact k1 hW 
  · refine P_iload_n d_276_12 rfl ?_
    refine P_iload_n d_276_13 rfl ?_
    refine P_iload_n d_276_14 rfl ?_
    refine A_S2 d_276_15 sk_276_326 ml_225 rfl rfl hf (fun r1 M2 hc hf => t_Mo_has hW  hc (fun hW hb2 => ?_))
    refine A_if_eq (tgt := 30) d_276_18 rfl hf (fun hf => ?_) (fun hf => ?_)
    · refine A_iconst d_276_30 ic_0 ?_
      refine P_iadd d_276_31 ?_
      refine A_istore_n d_276_32 ml_276 rfl rfl ?_
      refine A_iinc d_276_33 ic_1 rfl ml_276 rfl rfl ?_
      refine P_goto (tgt := 4) d_276_36 rfl ?_
      exact hrec _ _ _ hW  hf
    · refine P_aload_n d_276_21 rfl ?_
      refine A_gF d_276_22 cn_276 fk_CordLoftModel_63 ft_13_34 k_105 hW ?_
      refine P_iload_n d_276_25 rfl ?_
      refine A_iald d_276_26 k_122 l_122 hW hf (fun hf => ?_)
      refine P_goto (tgt := 31) d_276_27 rfl ?_
      refine P_iadd d_276_31 ?_
      refine A_istore_n d_276_32 ml_276 rfl rfl ?_
      refine A_iinc d_276_33 ic_1 rfl ml_276 rfl rfl ?_
      refine P_goto (tgt := 4) d_276_36 rfl ?_
      exact hrec _ _ _ hW  hf
theorem t_Mo_costOf_l4 {G : GT} {d : Nat} {v1 : Int32} {Q : AM → Option Value → Prop} {yo : Int32} {Mo : AM} (k1 : WT Mo → PW G (d + 1) 276 39 [ux, ux, .int yo, ux] [] Mo 0 0 Q)  : ∀ (z : Nat) (v2 : Int32) (v3 : Int32) (M : AM), WT M → f_Mo_costOf_l4 v1 z v2 v3 M = some (yo, Mo) → PW G (d + 1) 276 4 [.ref 105, .int v1, .int v2, .int v3] [] M 0 0 Q := by
  intro z
  induction z with
  | zero => intro v2 v3 M hW hf; cases hf
  | succ z ih => intro v2 v3 M hW hf; exact t_Mo_costOf_b4 (fun v2 v3 M hW hf => ih v2 v3 M hW hf) k1 hW   hf
def f_Mo_costOf (a1 : Int32) (M : AM) : Option (Int32 × AM) :=
  bnd (f_Mo_costOf_l4 a1 fu 0 0 M) (fun y1 M2 => some (y1, M2))
set_option maxRecDepth 20000 in
theorem t_Mo_costOf {G : GT} {d : Nat} {a1 : Int32} {M : AM} {Q : AM → Option Value → Prop} {r : Int32} {M' : AM} (hW : WT M)  (hf : f_Mo_costOf a1 M = some (r, M')) (k : WT M' → Q M' (some (.int r)))  : Cal G (d + 1) 276 [.ref 105, .int a1] M Q := by
  refine A_enter ml_276 rfl ?_
  refine A_iconst d_276_0 ic_0 ?_
  refine A_istore_n d_276_1 ml_276 rfl rfl ?_
  refine A_iconst d_276_2 ic_0 ?_
  refine A_istore_n d_276_3 ml_276 rfl rfl ?_
  obtain ⟨y1, M2, hl, hf⟩ := bnd_some hf
  refine t_Mo_costOf_l4 (fun hW => ?_)  fu _ _ _ hW  hl
  refine P_iload_n d_276_39 rfl ?_
  exact A_iret d_276_40 mr_276 hW hf k
def f_Mo_cheapestFor_b4 (rec : Int32 → Int32 → AM → Option (Int32 × AM)) (v1 : Int32) (v2 : Int32) (v3 : Int32) (M : AM) : Option (Int32 × AM) :=
  bnd (f_Mo_free  M) (fun r1 M2 => if r1 < v3 then some (v2, M2) else bnd (f_Mo_free  M2) (fun r3 M4 => bnd (f_Mo_isWithin v3 r3 M4) (fun r5 M6 => if r5 = 0 then rec v2 (v3 + 1) M6 else ald 5 M6 123 0 (fun x7 => bnd (f_Mo_turnedBy v3 M6) (fun r8 M9 => if (x7 ^^^ r8) = v1 then if v2 < 0 then rec v3 (v3 + 1) M9 else bnd (f_Mo_costOf v3 M9) (fun r10 M11 => bnd (f_Mo_costOf v2 M11) (fun r12 M13 => if r10 < r12 then rec v3 (v3 + 1) M13 else bnd (f_Mo_costOf v3 M13) (fun r14 M15 => bnd (f_Mo_costOf v2 M15) (fun r16 M17 => if r14 = r16 then bnd (f_Mo_members v3 M17) (fun r18 M19 => bnd (f_Mo_members v2 M19) (fun r20 M21 => if r20 ≤ r18 then rec v2 (v3 + 1) M21 else rec v3 (v3 + 1) M21)) else rec v2 (v3 + 1) M17)))) else rec v2 (v3 + 1) M9)))))
def f_Mo_cheapestFor_l4 (v1 : Int32) : Nat → Int32 → Int32 → AM → Option (Int32 × AM)
  | 0, _, _, _ => none
  | n + 1, v2, v3, M => f_Mo_cheapestFor_b4 (f_Mo_cheapestFor_l4 v1 n) v1 v2 v3 M
set_option maxRecDepth 20000 in
theorem t_Mo_cheapestFor_b4 {G : GT} {d : Nat} {v1 : Int32} {v2 : Int32} {v3 : Int32} {M : AM} {Q : AM → Option Value → Prop} {yo : Int32} {Mo : AM} {rec : Int32 → Int32 → AM → Option (Int32 × AM)} (hrec : ∀ (v2 : Int32) (v3 : Int32) (M : AM), WT M → rec v2 v3 M = some (yo, Mo) → PW G (d + 2) 275 4 [.ref 105, .int v1, .int v2, .int v3] [] M 0 0 Q) (k1 : WT Mo → PW G (d + 2) 275 91 [ux, ux, .int yo, ux] [] Mo 0 0 Q) (hW : WT M)   (hf : f_Mo_cheapestFor_b4 rec v1 v2 v3 M = some (yo, Mo)) : PW G (d + 2) 275 4 [.ref 105, .int v1, .int v2, .int v3] [] M 0 0 Q := by
  refine P_iload_n d_275_4 rfl ?_
  refine P_aload_n d_275_5 rfl ?_
  refine A_V0 d_275_6 vk_275_429 ml_268 rfl k_105 hW rfl hf (fun r1 M2 hc hf => t_Mo_free hW  hc (fun hW => ?_))
  refine A_icmp_gt (tgt := 91) d_275_9 rfl hf (fun hf => ?_) (fun hf => ?_)
  · refine P_fgt [false, false, true, false] ?_
    cases hf
    exact k1 hW 
  · refine P_iload_n d_275_12 rfl ?_
    refine P_aload_n d_275_13 rfl ?_
    refine A_V0 d_275_14 vk_275_429 ml_268 rfl k_105 hW rfl hf (fun r3 M4 hc hf => t_Mo_free hW  hc (fun hW => ?_))
    refine A_S2 d_275_17 sk_275_432 ml_269 rfl rfl hf (fun r5 M6 hc hf => t_Mo_isWithin hW  hc (fun hW hb6 => ?_))
    refine A_if_eq (tgt := 85) d_275_20 rfl hf (fun hf => ?_) (fun hf => ?_)
    · refine A_iinc d_275_85 ic_1 rfl ml_275 rfl rfl ?_
      refine P_goto (tgt := 4) d_275_88 rfl ?_
      exact hrec _ _ _ hW  hf
    · refine P_aload_n d_275_23 rfl ?_
      refine A_gF d_275_24 cn_275 fk_CordLoftModel_66 ft_13_50 k_105 hW ?_
      refine A_iconst d_275_27 ic_0 ?_
      refine A_iald d_275_28 k_123 l_123 hW hf (fun hf => ?_)
      refine P_aload_n d_275_29 rfl ?_
      refine P_iload_n d_275_30 rfl ?_
      refine A_V1 d_275_31 vk_275_435 ml_270 rfl k_105 hW rfl hf (fun r8 M9 hc hf => t_Mo_turnedBy hW  hc (fun hW => ?_))
      refine P_ixor d_275_34 ?_
      refine P_iload_n d_275_35 rfl ?_
      refine A_icmp_eq (tgt := 42) d_275_36 rfl hf (fun hf => ?_) (fun hf => ?_)
      · refine P_iload_n d_275_42 rfl ?_
        refine A_if_lt (tgt := 83) d_275_43 rfl hf (fun hf => ?_) (fun hf => ?_)
        · refine P_iload_n d_275_83 rfl ?_
          refine A_istore_n d_275_84 ml_275 rfl rfl ?_
          refine A_iinc d_275_85 ic_1 rfl ml_275 rfl rfl ?_
          refine P_goto (tgt := 4) d_275_88 rfl ?_
          exact hrec _ _ _ hW  hf
        · refine P_aload_n d_275_46 rfl ?_
          refine P_iload_n d_275_47 rfl ?_
          refine A_V1 d_275_48 vk_275_448 ml_276 rfl k_105 hW rfl hf (fun r10 M11 hc hf => t_Mo_costOf hW  hc (fun hW => ?_))
          refine P_aload_n d_275_51 rfl ?_
          refine P_iload_n d_275_52 rfl ?_
          refine A_V1 d_275_53 vk_275_448 ml_276 rfl k_105 hW rfl hf (fun r12 M13 hc hf => t_Mo_costOf hW  hc (fun hW => ?_))
          refine A_icmp_lt (tgt := 83) d_275_56 rfl hf (fun hf => ?_) (fun hf => ?_)
          · refine P_iload_n d_275_83 rfl ?_
            refine A_istore_n d_275_84 ml_275 rfl rfl ?_
            refine A_iinc d_275_85 ic_1 rfl ml_275 rfl rfl ?_
            refine P_goto (tgt := 4) d_275_88 rfl ?_
            exact hrec _ _ _ hW  hf
          · refine P_aload_n d_275_59 rfl ?_
            refine P_iload_n d_275_60 rfl ?_
            refine A_V1 d_275_61 vk_275_448 ml_276 rfl k_105 hW rfl hf (fun r14 M15 hc hf => t_Mo_costOf hW  hc (fun hW => ?_))
            refine P_aload_n d_275_64 rfl ?_
            refine P_iload_n d_275_65 rfl ?_
            refine A_V1 d_275_66 vk_275_448 ml_276 rfl k_105 hW rfl hf (fun r16 M17 hc hf => t_Mo_costOf hW  hc (fun hW => ?_))
            refine A_icmp_ne (tgt := 85) d_275_69 rfl hf (fun hf => ?_) (fun hf => ?_)
            · refine A_iinc d_275_85 ic_1 rfl ml_275 rfl rfl ?_
              refine P_goto (tgt := 4) d_275_88 rfl ?_
              exact hrec _ _ _ hW  hf
            · refine P_iload_n d_275_72 rfl ?_
              refine A_S1 d_275_73 sk_275_290 ml_250 rfl rfl hf (fun r18 M19 hc hf => t_Mo_members hW  hc (fun hW => ?_))
              refine P_iload_n d_275_76 rfl ?_
              refine A_S1 d_275_77 sk_275_290 ml_250 rfl rfl hf (fun r20 M21 hc hf => t_Mo_members hW  hc (fun hW => ?_))
              refine A_icmp_ge (tgt := 85) d_275_80 rfl hf (fun hf => ?_) (fun hf => ?_)
              · refine A_iinc d_275_85 ic_1 rfl ml_275 rfl rfl ?_
                refine P_goto (tgt := 4) d_275_88 rfl ?_
                exact hrec _ _ _ hW  hf
              · refine P_iload_n d_275_83 rfl ?_
                refine A_istore_n d_275_84 ml_275 rfl rfl ?_
                refine A_iinc d_275_85 ic_1 rfl ml_275 rfl rfl ?_
                refine P_goto (tgt := 4) d_275_88 rfl ?_
                exact hrec _ _ _ hW  hf
      · refine P_goto (tgt := 85) d_275_39 rfl ?_
        refine A_iinc d_275_85 ic_1 rfl ml_275 rfl rfl ?_
        refine P_goto (tgt := 4) d_275_88 rfl ?_
        exact hrec _ _ _ hW  hf
theorem t_Mo_cheapestFor_l4 {G : GT} {d : Nat} {v1 : Int32} {Q : AM → Option Value → Prop} {yo : Int32} {Mo : AM} (k1 : WT Mo → PW G (d + 2) 275 91 [ux, ux, .int yo, ux] [] Mo 0 0 Q)  : ∀ (z : Nat) (v2 : Int32) (v3 : Int32) (M : AM), WT M → f_Mo_cheapestFor_l4 v1 z v2 v3 M = some (yo, Mo) → PW G (d + 2) 275 4 [.ref 105, .int v1, .int v2, .int v3] [] M 0 0 Q := by
  intro z
  induction z with
  | zero => intro v2 v3 M hW hf; cases hf
  | succ z ih => intro v2 v3 M hW hf; exact t_Mo_cheapestFor_b4 (fun v2 v3 M hW hf => ih v2 v3 M hW hf) k1 hW   hf
def f_Mo_cheapestFor (a1 : Int32) (M : AM) : Option (Int32 × AM) :=
  bnd (f_Mo_cheapestFor_l4 a1 fu (-1) 0 M) (fun y1 M2 => some (y1, M2))
set_option maxRecDepth 20000 in
theorem t_Mo_cheapestFor {G : GT} {d : Nat} {a1 : Int32} {M : AM} {Q : AM → Option Value → Prop} {r : Int32} {M' : AM} (hW : WT M)  (hf : f_Mo_cheapestFor a1 M = some (r, M')) (k : WT M' → Q M' (some (.int r)))  : Cal G (d + 2) 275 [.ref 105, .int a1] M Q := by
  refine A_enter ml_275 rfl ?_
  refine A_iconst d_275_0 ic_m1 ?_
  refine A_istore_n d_275_1 ml_275 rfl rfl ?_
  refine A_iconst d_275_2 ic_0 ?_
  refine A_istore_n d_275_3 ml_275 rfl rfl ?_
  obtain ⟨y1, M2, hl, hf⟩ := bnd_some hf
  refine t_Mo_cheapestFor_l4 (fun hW => ?_)  fu _ _ _ hW  hl
  refine P_iload_n d_275_91 rfl ?_
  exact A_iret d_275_92 mr_275 hW hf k
def f_Mo_cheapest (a1 : Int32) (a2 : Int32) (M : AM) : Option (Int32 × AM) :=
  bnd (f_Mo_isPicture a1 M) (fun r1 M2 => if r1 = 0 then some ((-1), M2) else bnd (f_Mo_isIn a2 0 1 M2) (fun r3 M4 => if r3 = 0 then some ((-1), M4) else bnd (f_Mo_cheapestFor a1 M4) (fun r5 M6 => if 0 ≤ r5 then if a2 = 0 then bnd (f_Mo_costOf r5 M6) (fun r7 M8 => some (r7, M8)) else some (r5, M6) else some ((-1), M6))))
set_option maxRecDepth 20000 in
theorem t_Mo_cheapest {G : GT} {d : Nat} {a1 : Int32} {a2 : Int32} {M : AM} {Q : AM → Option Value → Prop} {r : Int32} {M' : AM} (hW : WT M)  (hf : f_Mo_cheapest a1 a2 M = some (r, M')) (k : WT M' → Q M' (some (.int r)))  : Cal G (d + 3) 274 [.ref 105, .int a1, .int a2] M Q := by
  refine A_enter ml_274 rfl ?_
  refine P_aload_n d_274_0 rfl ?_
  refine P_iload_n d_274_1 rfl ?_
  refine A_V1 d_274_2 vk_274_438 ml_266 rfl k_105 hW rfl hf (fun r1 M2 hc hf => t_Mo_isPicture hW  hc (fun hW hb2 => ?_))
  refine A_if_eq (tgt := 17) d_274_5 rfl hf (fun hf => ?_) (fun hf => ?_)
  · refine A_iconst d_274_17 ic_m1 ?_
    exact A_iret d_274_18 mr_274 hW hf k
  · refine P_iload_n d_274_8 rfl ?_
    refine A_iconst d_274_9 ic_0 ?_
    refine A_iconst d_274_10 ic_1 ?_
    refine A_S3 d_274_11 sk_274_399 ml_243 rfl rfl hf (fun r3 M4 hc hf => t_Mo_isIn hW  hc (fun hW hb4 => ?_))
    refine A_if_ne (tgt := 19) d_274_14 rfl hf (fun hf => ?_) (fun hf => ?_)
    · refine P_aload_n d_274_19 rfl ?_
      refine P_iload_n d_274_20 rfl ?_
      refine A_V1 d_274_21 vk_274_451 ml_275 rfl k_105 hW rfl hf (fun r5 M6 hc hf => t_Mo_cheapestFor hW  hc (fun hW => ?_))
      refine A_istore_n d_274_24 ml_274 rfl rfl ?_
      refine P_iload_n d_274_25 rfl ?_
      refine A_if_ge (tgt := 33) d_274_26 rfl hf (fun hf => ?_) (fun hf => ?_)
      · refine P_iload_n d_274_33 rfl ?_
        refine A_if_ne (tgt := 45) d_274_34 rfl hf (fun hf => ?_) (fun hf => ?_)
        · refine P_iload_n d_274_45 rfl ?_
          exact A_iret d_274_46 mr_274 hW hf k
        · refine P_aload_n d_274_37 rfl ?_
          refine P_iload_n d_274_38 rfl ?_
          refine A_V1 d_274_39 vk_274_448 ml_276 rfl k_105 hW rfl hf (fun r7 M8 hc hf => t_Mo_costOf hW  hc (fun hW => ?_))
          refine P_goto (tgt := 46) d_274_42 rfl ?_
          exact A_iret d_274_46 mr_274 hW hf k
      · refine A_iconst d_274_29 ic_m1 ?_
        refine P_goto (tgt := 46) d_274_30 rfl ?_
        exact A_iret d_274_46 mr_274 hW hf k
    · refine A_iconst d_274_17 ic_m1 ?_
      exact A_iret d_274_18 mr_274 hW hf k
def f_Mo_silent (a1 : Int32) (M : AM) : Option (Int32 × AM) :=
  bnd (f_Mo_isIn a1 0 1 M) (fun r1 M2 => if r1 = 0 then some ((-1), M2) else bnd (f_Mo_fewestFor 0 1 M2) (fun r3 M4 => if 0 ≤ r3 then if a1 = 0 then bnd (f_Mo_members r3 M4) (fun r5 M6 => some (r5, M6)) else some (r3, M4) else some ((-1), M4)))
set_option maxRecDepth 20000 in
theorem t_Mo_silent {G : GT} {d : Nat} {a1 : Int32} {M : AM} {Q : AM → Option Value → Prop} {r : Int32} {M' : AM} (hW : WT M)  (hf : f_Mo_silent a1 M = some (r, M')) (k : WT M' → Q M' (some (.int r)))  : Cal G (d + 3) 277 [.ref 105, .int a1] M Q := by
  refine A_enter ml_277 rfl ?_
  refine P_iload_n d_277_0 rfl ?_
  refine A_iconst d_277_1 ic_0 ?_
  refine A_iconst d_277_2 ic_1 ?_
  refine A_S3 d_277_3 sk_277_399 ml_243 rfl rfl hf (fun r1 M2 hc hf => t_Mo_isIn hW  hc (fun hW hb2 => ?_))
  refine A_if_ne (tgt := 11) d_277_6 rfl hf (fun hf => ?_) (fun hf => ?_)
  · refine P_aload_n d_277_11 rfl ?_
    refine A_iconst d_277_12 ic_0 ?_
    refine A_iconst d_277_13 ic_1 ?_
    refine A_V2 d_277_14 vk_277_444 ml_273 rfl k_105 hW rfl hf (fun r3 M4 hc hf => t_Mo_fewestFor hW  hc (fun hW => ?_))
    refine A_istore_n d_277_17 ml_277 rfl rfl ?_
    refine P_iload_n d_277_18 rfl ?_
    refine A_if_ge (tgt := 26) d_277_19 rfl hf (fun hf => ?_) (fun hf => ?_)
    · refine P_iload_n d_277_26 rfl ?_
      refine A_if_ne (tgt := 37) d_277_27 rfl hf (fun hf => ?_) (fun hf => ?_)
      · refine P_iload_n d_277_37 rfl ?_
        exact A_iret d_277_38 mr_277 hW hf k
      · refine P_iload_n d_277_30 rfl ?_
        refine A_S1 d_277_31 sk_277_290 ml_250 rfl rfl hf (fun r5 M6 hc hf => t_Mo_members hW  hc (fun hW => ?_))
        refine P_goto (tgt := 38) d_277_34 rfl ?_
        exact A_iret d_277_38 mr_277 hW hf k
    · refine A_iconst d_277_22 ic_m1 ?_
      refine P_goto (tgt := 38) d_277_23 rfl ?_
      exact A_iret d_277_38 mr_277 hW hf k
  · refine A_iconst d_277_9 ic_m1 ?_
    exact A_iret d_277_10 mr_277 hW hf k
def f_Mo_layPictures_b89 (rec : Int32 → Int32 → AM → Option (Int32 × AM))  (v3 : Int32) (v4 : Int32) (M : AM) : Option (Int32 × AM) :=
  if 256 ≤ v4 then some (v3, M) else ald 256 M 125 v4 (fun x1 => bnd (f_Mo_truth x1 M) (fun r2 M3 => rec (v3 + r2) (v4 + 1) M3))
def f_Mo_layPictures_l89  : Nat → Int32 → Int32 → AM → Option (Int32 × AM)
  | 0, _, _, _ => none
  | n + 1, v3, v4, M => f_Mo_layPictures_b89 (f_Mo_layPictures_l89  n)  v3 v4 M
set_option maxRecDepth 20000 in
theorem t_Mo_layPictures_b89 {G : GT} {d : Nat}  {v3 : Int32} {v4 : Int32} {M : AM} {Q : AM → Option Value → Prop} {yo : Int32} {Mo : AM} {rec : Int32 → Int32 → AM → Option (Int32 × AM)} (hrec : ∀ (v3 : Int32) (v4 : Int32) (M : AM), WT M → rec v3 v4 M = some (yo, Mo) → PW G (d + 2) 279 89 [.ref 105, ux, ux, .int v3, .int v4] [] M 0 0 Q) (k1 : WT Mo → PW G (d + 2) 279 116 [ux, ux, ux, .int yo, ux] [] Mo 0 0 Q) (hW : WT M)   (hf : f_Mo_layPictures_b89 rec  v3 v4 M = some (yo, Mo)) : PW G (d + 2) 279 89 [.ref 105, ux, ux, .int v3, .int v4] [] M 0 0 Q := by
  refine P_iload d_279_89 rfl ?_
  refine P_sipush d_279_91 si_256 ?_
  refine A_icmp_ge (tgt := 116) d_279_94 rfl hf (fun hf => ?_) (fun hf => ?_)
  · refine P_fgt [false, false, false, true, false] ?_
    cases hf
    exact k1 hW 
  · refine P_iload_n d_279_97 rfl ?_
    refine P_aload_n d_279_98 rfl ?_
    refine A_gF d_279_99 cn_279 fk_CordLoftModel_72 ft_13_55 k_105 hW ?_
    refine P_iload d_279_102 rfl ?_
    refine A_zald d_279_104 k_125 l_125 hW hf (fun hf => ?_)
    refine A_S1 d_279_105 sk_279_283 ml_259 rfl rfl hf (fun r2 M3 hc hf => t_Mo_truth hW  hc (fun hW => ?_))
    refine P_iadd d_279_108 ?_
    refine A_istore_n d_279_109 ml_279 rfl rfl ?_
    refine A_iinc d_279_110 ic_1 rfl ml_279 rfl rfl ?_
    refine P_goto (tgt := 89) d_279_113 rfl ?_
    exact hrec _ _ _ hW  hf
theorem t_Mo_layPictures_l89 {G : GT} {d : Nat}  {Q : AM → Option Value → Prop} {yo : Int32} {Mo : AM} (k1 : WT Mo → PW G (d + 2) 279 116 [ux, ux, ux, .int yo, ux] [] Mo 0 0 Q)  : ∀ (z : Nat) (v3 : Int32) (v4 : Int32) (M : AM), WT M → f_Mo_layPictures_l89  z v3 v4 M = some (yo, Mo) → PW G (d + 2) 279 89 [.ref 105, ux, ux, .int v3, .int v4] [] M 0 0 Q := by
  intro z
  induction z with
  | zero => intro v3 v4 M hW hf; cases hf
  | succ z ih => intro v3 v4 M hW hf; exact t_Mo_layPictures_b89 (fun v3 v4 M hW hf => ih v3 v4 M hW hf) k1 hW   hf
def f_Mo_layPictures_b24 (rec : Int32 → AM → Option (Unit × AM)) (v1 : Int32) (v2 : Int32) (v3 : Int32) (M : AM) : Option (Unit × AM) :=
  if v1 < v3 then some ((), M) else bnd (f_Mo_isWithin v3 v1 M) (fun r1 M2 => if r1 = 0 then rec (v3 + 1) M2 else ald 5 M2 123 0 (fun x3 => bnd (f_Mo_turnedBy v3 M2) (fun r4 M5 => ast 256 M5 125 (x3 ^^^ r4) 1 (fun M6 => ald 5 M6 123 0 (fun x7 => bnd (f_Mo_turnedBy v3 M6) (fun r8 M9 => ast 256 M9 125 ((x7 ^^^ r8) ^^^ v2) 1 (fun M10 => rec (v3 + 1) M10)))))))
def f_Mo_layPictures_l24 (v1 : Int32) (v2 : Int32) : Nat → Int32 → AM → Option (Unit × AM)
  | 0, _, _ => none
  | n + 1, v3, M => f_Mo_layPictures_b24 (f_Mo_layPictures_l24 v1 v2 n) v1 v2 v3 M
set_option maxRecDepth 20000 in
theorem t_Mo_layPictures_b24 {G : GT} {d : Nat} {v1 : Int32} {v2 : Int32} {v3 : Int32} {M : AM} {Q : AM → Option Value → Prop} {yo : Unit} {Mo : AM} {rec : Int32 → AM → Option (Unit × AM)} (hrec : ∀ (v3 : Int32) (M : AM), WT M → rec v3 M = some (yo, Mo) → PW G (d + 2) 279 24 [.ref 105, .int v1, .int v2, .int v3, ux] [] M 0 0 Q) (k1 : WT Mo → PW G (d + 2) 279 84 [.ref 105, ux, ux, ux, ux] [] Mo 0 0 Q) (hW : WT M)   (hf : f_Mo_layPictures_b24 rec v1 v2 v3 M = some (yo, Mo)) : PW G (d + 2) 279 24 [.ref 105, .int v1, .int v2, .int v3, ux] [] M 0 0 Q := by
  refine P_iload_n d_279_24 rfl ?_
  refine P_iload_n d_279_25 rfl ?_
  refine A_icmp_gt (tgt := 84) d_279_26 rfl hf (fun hf => ?_) (fun hf => ?_)
  · refine P_fgt [true, false, false, false, false] ?_
    cases hf
    exact k1 hW 
  · refine P_iload_n d_279_29 rfl ?_
    refine P_iload_n d_279_30 rfl ?_
    refine A_S2 d_279_31 sk_279_432 ml_269 rfl rfl hf (fun r1 M2 hc hf => t_Mo_isWithin hW  hc (fun hW hb2 => ?_))
    refine A_if_ne (tgt := 40) d_279_34 rfl hf (fun hf => ?_) (fun hf => ?_)
    · refine P_aload_n d_279_40 rfl ?_
      refine A_gF d_279_41 cn_279 fk_CordLoftModel_72 ft_13_55 k_105 hW ?_
      refine P_aload_n d_279_44 rfl ?_
      refine A_gF d_279_45 cn_279 fk_CordLoftModel_66 ft_13_50 k_105 hW ?_
      refine A_iconst d_279_48 ic_0 ?_
      refine A_iald d_279_49 k_123 l_123 hW hf (fun hf => ?_)
      refine P_aload_n d_279_50 rfl ?_
      refine P_iload_n d_279_51 rfl ?_
      refine A_V1 d_279_52 vk_279_435 ml_270 rfl k_105 hW rfl hf (fun r4 M5 hc hf => t_Mo_turnedBy hW  hc (fun hW => ?_))
      refine P_ixor d_279_55 ?_
      refine A_iconst d_279_56 ic_1 ?_
      refine A_zast d_279_57 k_125 l_125 hW (Or.inr rfl) hf (fun hW hf => ?_)
      refine P_aload_n d_279_58 rfl ?_
      refine A_gF d_279_59 cn_279 fk_CordLoftModel_72 ft_13_55 k_105 hW ?_
      refine P_aload_n d_279_62 rfl ?_
      refine A_gF d_279_63 cn_279 fk_CordLoftModel_66 ft_13_50 k_105 hW ?_
      refine A_iconst d_279_66 ic_0 ?_
      refine A_iald d_279_67 k_123 l_123 hW hf (fun hf => ?_)
      refine P_aload_n d_279_68 rfl ?_
      refine P_iload_n d_279_69 rfl ?_
      refine A_V1 d_279_70 vk_279_435 ml_270 rfl k_105 hW rfl hf (fun r8 M9 hc hf => t_Mo_turnedBy hW  hc (fun hW => ?_))
      refine P_ixor d_279_73 ?_
      refine P_iload_n d_279_74 rfl ?_
      refine P_ixor d_279_75 ?_
      refine A_iconst d_279_76 ic_1 ?_
      refine A_zast d_279_77 k_125 l_125 hW (Or.inr rfl) hf (fun hW hf => ?_)
      refine A_iinc d_279_78 ic_1 rfl ml_279 rfl rfl ?_
      refine P_goto (tgt := 24) d_279_81 rfl ?_
      exact hrec _ _ hW  hf
    · refine P_goto (tgt := 78) d_279_37 rfl ?_
      refine A_iinc d_279_78 ic_1 rfl ml_279 rfl rfl ?_
      refine P_goto (tgt := 24) d_279_81 rfl ?_
      exact hrec _ _ hW  hf
theorem t_Mo_layPictures_l24 {G : GT} {d : Nat} {v1 : Int32} {v2 : Int32} {Q : AM → Option Value → Prop} {yo : Unit} {Mo : AM} (k1 : WT Mo → PW G (d + 2) 279 84 [.ref 105, ux, ux, ux, ux] [] Mo 0 0 Q)  : ∀ (z : Nat) (v3 : Int32) (M : AM), WT M → f_Mo_layPictures_l24 v1 v2 z v3 M = some (yo, Mo) → PW G (d + 2) 279 24 [.ref 105, .int v1, .int v2, .int v3, ux] [] M 0 0 Q := by
  intro z
  induction z with
  | zero => intro v3 M hW hf; cases hf
  | succ z ih => intro v3 M hW hf; exact t_Mo_layPictures_b24 (fun v3 M hW hf => ih v3 M hW hf) k1 hW   hf
def f_Mo_layPictures_b2 (rec : Int32 → AM → Option (Unit × AM)) (v1 : Int32) (v2 : Int32) (v3 : Int32) (M : AM) : Option (Unit × AM) :=
  if 256 ≤ v3 then some ((), M) else ast 256 M 125 v3 0 (fun M1 => rec (v3 + 1) M1)
def f_Mo_layPictures_l2 (v1 : Int32) (v2 : Int32) : Nat → Int32 → AM → Option (Unit × AM)
  | 0, _, _ => none
  | n + 1, v3, M => f_Mo_layPictures_b2 (f_Mo_layPictures_l2 v1 v2 n) v1 v2 v3 M
set_option maxRecDepth 20000 in
theorem t_Mo_layPictures_b2 {G : GT} {d : Nat} {v1 : Int32} {v2 : Int32} {v3 : Int32} {M : AM} {Q : AM → Option Value → Prop} {yo : Unit} {Mo : AM} {rec : Int32 → AM → Option (Unit × AM)} (hrec : ∀ (v3 : Int32) (M : AM), WT M → rec v3 M = some (yo, Mo) → PW G (d + 2) 279 2 [.ref 105, .int v1, .int v2, .int v3, ux] [] M 0 0 Q) (k1 : WT Mo → PW G (d + 2) 279 22 [.ref 105, .int v1, .int v2, ux, ux] [] Mo 0 0 Q) (hW : WT M)   (hf : f_Mo_layPictures_b2 rec v1 v2 v3 M = some (yo, Mo)) : PW G (d + 2) 279 2 [.ref 105, .int v1, .int v2, .int v3, ux] [] M 0 0 Q := by
  refine P_iload_n d_279_2 rfl ?_
  refine P_sipush d_279_3 si_256 ?_
  refine A_icmp_ge (tgt := 22) d_279_6 rfl hf (fun hf => ?_) (fun hf => ?_)
  · refine P_fgt [true, true, true, false, false] ?_
    cases hf
    exact k1 hW 
  · refine P_aload_n d_279_9 rfl ?_
    refine A_gF d_279_10 cn_279 fk_CordLoftModel_72 ft_13_55 k_105 hW ?_
    refine P_iload_n d_279_13 rfl ?_
    refine A_iconst d_279_14 ic_0 ?_
    refine A_zast d_279_15 k_125 l_125 hW (Or.inl rfl) hf (fun hW hf => ?_)
    refine A_iinc d_279_16 ic_1 rfl ml_279 rfl rfl ?_
    refine P_goto (tgt := 2) d_279_19 rfl ?_
    exact hrec _ _ hW  hf
theorem t_Mo_layPictures_l2 {G : GT} {d : Nat} {v1 : Int32} {v2 : Int32} {Q : AM → Option Value → Prop} {yo : Unit} {Mo : AM} (k1 : WT Mo → PW G (d + 2) 279 22 [.ref 105, .int v1, .int v2, ux, ux] [] Mo 0 0 Q)  : ∀ (z : Nat) (v3 : Int32) (M : AM), WT M → f_Mo_layPictures_l2 v1 v2 z v3 M = some (yo, Mo) → PW G (d + 2) 279 2 [.ref 105, .int v1, .int v2, .int v3, ux] [] M 0 0 Q := by
  intro z
  induction z with
  | zero => intro v3 M hW hf; cases hf
  | succ z ih => intro v3 M hW hf; exact t_Mo_layPictures_b2 (fun v3 M hW hf => ih v3 M hW hf) k1 hW   hf
def f_Mo_layPictures (a1 : Int32) (a2 : Int32) (M : AM) : Option (Int32 × AM) :=
  bnd (f_Mo_layPictures_l2 a1 a2 fu 0 M) (fun y1 M2 => bnd (f_Mo_layPictures_l24 a1 a2 fu 0 M2) (fun y3 M4 => bnd (f_Mo_layPictures_l89  fu 0 0 M4) (fun y5 M6 => some (y5, M6))))
set_option maxRecDepth 20000 in
theorem t_Mo_layPictures {G : GT} {d : Nat} {a1 : Int32} {a2 : Int32} {M : AM} {Q : AM → Option Value → Prop} {r : Int32} {M' : AM} (hW : WT M)  (hf : f_Mo_layPictures a1 a2 M = some (r, M')) (k : WT M' → Q M' (some (.int r)))  : Cal G (d + 2) 279 [.ref 105, .int a1, .int a2] M Q := by
  refine A_enter ml_279 rfl ?_
  refine A_iconst d_279_0 ic_0 ?_
  refine A_istore_n d_279_1 ml_279 rfl rfl ?_
  obtain ⟨y1, M2, hl, hf⟩ := bnd_some hf
  refine t_Mo_layPictures_l2 (fun hW => ?_)  fu _ _ hW  hl
  refine A_iconst d_279_22 ic_0 ?_
  refine A_istore_n d_279_23 ml_279 rfl rfl ?_
  obtain ⟨y3, M4, hl, hf⟩ := bnd_some hf
  refine t_Mo_layPictures_l24 (fun hW => ?_)  fu _ _ hW  hl
  refine A_iconst d_279_84 ic_0 ?_
  refine A_istore_n d_279_85 ml_279 rfl rfl ?_
  refine A_iconst d_279_86 ic_0 ?_
  refine A_istore d_279_87 ml_279 rfl rfl ?_
  obtain ⟨y5, M6, hl, hf⟩ := bnd_some hf
  refine t_Mo_layPictures_l89 (fun hW => ?_)  fu _ _ _ hW  hl
  refine P_iload_n d_279_116 rfl ?_
  exact A_iret d_279_117 mr_279 hW hf k
def f_Mo_pictures  (M : AM) : Option (Int32 × AM) :=
  bnd (f_Mo_free  M) (fun r1 M2 => bnd (f_Mo_layPictures r1 0 M2) (fun r3 M4 => some (r3, M4)))
set_option maxRecDepth 20000 in
theorem t_Mo_pictures {G : GT} {d : Nat}  {M : AM} {Q : AM → Option Value → Prop} {r : Int32} {M' : AM} (hW : WT M)  (hf : f_Mo_pictures  M = some (r, M')) (k : WT M' → Q M' (some (.int r)))  : Cal G (d + 3) 278 [.ref 105] M Q := by
  refine A_enter ml_278 rfl ?_
  refine P_aload_n d_278_0 rfl ?_
  refine P_aload_n d_278_1 rfl ?_
  refine A_V0 d_278_2 vk_278_429 ml_268 rfl k_105 hW rfl hf (fun r1 M2 hc hf => t_Mo_free hW  hc (fun hW => ?_))
  refine A_iconst d_278_5 ic_0 ?_
  refine A_V2 d_278_6 vk_278_454 ml_279 rfl k_105 hW rfl hf (fun r3 M4 hc hf => t_Mo_layPictures hW  hc (fun hW => ?_))
  exact A_iret d_278_9 mr_278 hW hf k
def f_Mo_without (a1 : Int32) (M : AM) : Option (Int32 × AM) :=
  bnd (f_Mo_free  M) (fun r1 M2 => bnd (f_Mo_layPictures (r1 &&& (((1 : Int32) <<< (a1 &&& 31)) ^^^ (-1))) 0 M2) (fun r3 M4 => some (r3, M4)))
set_option maxRecDepth 20000 in
theorem t_Mo_without {G : GT} {d : Nat} {a1 : Int32} {M : AM} {Q : AM → Option Value → Prop} {r : Int32} {M' : AM} (hW : WT M)  (hf : f_Mo_without a1 M = some (r, M')) (k : WT M' → Q M' (some (.int r)))  : Cal G (d + 3) 281 [.ref 105, .int a1] M Q := by
  refine A_enter ml_281 rfl ?_
  refine P_aload_n d_281_0 rfl ?_
  refine P_aload_n d_281_1 rfl ?_
  refine A_V0 d_281_2 vk_281_429 ml_268 rfl k_105 hW rfl hf (fun r1 M2 hc hf => t_Mo_free hW  hc (fun hW => ?_))
  refine A_iconst d_281_5 ic_1 ?_
  refine P_iload_n d_281_6 rfl ?_
  refine P_ishl d_281_7 ?_
  refine A_iconst d_281_8 ic_m1 ?_
  refine P_ixor d_281_9 ?_
  refine P_iand d_281_10 ?_
  refine A_iconst d_281_11 ic_0 ?_
  refine A_V2 d_281_12 vk_281_454 ml_279 rfl k_105 hW rfl hf (fun r3 M4 hc hf => t_Mo_layPictures hW  hc (fun hW => ?_))
  exact A_iret d_281_15 mr_281 hW hf k
def f_Mo_spare_j40 (rec : Int32 → Int32 → AM → Option (Int32 × AM)) (v1 : Int32) (v3 : Int32) (s0 : Int32) (s1 : Int32) (M : AM) : Option (Int32 × AM) :=
  bnd (f_Mo_truth s1 M) (fun r1 M2 => rec (s0 ||| (r1 <<< (v3 &&& 31))) (v3 + 1) M2)
set_option maxRecDepth 20000 in
theorem t_Mo_spare_j40 {G : GT} {d : Nat} {v1 : Int32} {v3 : Int32} {s0 : Int32} {s1 : Int32} {M : AM} {Q : AM → Option Value → Prop} {yo : Int32} {Mo : AM} {rec : Int32 → Int32 → AM → Option (Int32 × AM)} (hrec : ∀ (v2 : Int32) (v3 : Int32) (M : AM), WT M → rec v2 v3 M = some (yo, Mo) → PW G (d + 4) 280 9 [.ref 105, .int v1, .int v2, .int v3] [] M 0 0 Q) (k1 : WT Mo → PW G (d + 4) 280 53 [ux, ux, .int yo, ux] [] Mo 0 0 Q) (hW : WT M)  (hf : f_Mo_spare_j40 rec v1 v3 s0 s1 M = some (yo, Mo)) : PW G (d + 4) 280 40 [.ref 105, .int v1, ux, .int v3] [.int s1, .int s0] M 0 0 Q := by
  refine A_S1 d_280_40 sk_280_283 ml_259 rfl rfl hf (fun r1 M2 hc hf => t_Mo_truth hW  hc (fun hW => ?_))
  refine P_iload_n d_280_43 rfl ?_
  refine P_ishl d_280_44 ?_
  refine P_ior d_280_45 ?_
  refine A_istore_n d_280_46 ml_280 rfl rfl ?_
  refine A_iinc d_280_47 ic_1 rfl ml_280 rfl rfl ?_
  refine P_goto (tgt := 9) d_280_50 rfl ?_
  exact hrec _ _ _ hW  hf
def f_Mo_spare_j39 (rec : Int32 → Int32 → AM → Option (Int32 × AM)) (v1 : Int32) (v3 : Int32) (s0 : Int32) (M : AM) : Option (Int32 × AM) :=
  f_Mo_spare_j40 rec v1 v3 s0 0 M
set_option maxRecDepth 20000 in
theorem t_Mo_spare_j39 {G : GT} {d : Nat} {v1 : Int32} {v3 : Int32} {s0 : Int32} {M : AM} {Q : AM → Option Value → Prop} {yo : Int32} {Mo : AM} {rec : Int32 → Int32 → AM → Option (Int32 × AM)} (hrec : ∀ (v2 : Int32) (v3 : Int32) (M : AM), WT M → rec v2 v3 M = some (yo, Mo) → PW G (d + 4) 280 9 [.ref 105, .int v1, .int v2, .int v3] [] M 0 0 Q) (k1 : WT Mo → PW G (d + 4) 280 53 [ux, ux, .int yo, ux] [] Mo 0 0 Q) (hW : WT M)  (hf : f_Mo_spare_j39 rec v1 v3 s0 M = some (yo, Mo)) : PW G (d + 4) 280 39 [.ref 105, .int v1, ux, .int v3] [.int s0] M 0 0 Q := by
  refine A_iconst d_280_39 ic_0 ?_
  exact t_Mo_spare_j40 hrec k1 hW  hf
def f_Mo_spare_b9 (rec : Int32 → Int32 → AM → Option (Int32 × AM)) (v1 : Int32) (v2 : Int32) (v3 : Int32) (M : AM) : Option (Int32 × AM) :=
  if (gI M 105 42) ≤ v3 then some (v2, M) else bnd (f_Mo_isTied v3 M) (fun r1 M2 => if r1 = 0 then bnd (f_Mo_without v3 M2) (fun r3 M4 => if r3 = v1 then f_Mo_spare_j40 rec v1 v3 v2 1 M4 else f_Mo_spare_j39 rec v1 v3 v2 M4) else f_Mo_spare_j39 rec v1 v3 v2 M2)
def f_Mo_spare_l9 (v1 : Int32) : Nat → Int32 → Int32 → AM → Option (Int32 × AM)
  | 0, _, _, _ => none
  | n + 1, v2, v3, M => f_Mo_spare_b9 (f_Mo_spare_l9 v1 n) v1 v2 v3 M
set_option maxRecDepth 20000 in
theorem t_Mo_spare_b9 {G : GT} {d : Nat} {v1 : Int32} {v2 : Int32} {v3 : Int32} {M : AM} {Q : AM → Option Value → Prop} {yo : Int32} {Mo : AM} {rec : Int32 → Int32 → AM → Option (Int32 × AM)} (hrec : ∀ (v2 : Int32) (v3 : Int32) (M : AM), WT M → rec v2 v3 M = some (yo, Mo) → PW G (d + 4) 280 9 [.ref 105, .int v1, .int v2, .int v3] [] M 0 0 Q) (k1 : WT Mo → PW G (d + 4) 280 53 [ux, ux, .int yo, ux] [] Mo 0 0 Q) (hW : WT M)   (hf : f_Mo_spare_b9 rec v1 v2 v3 M = some (yo, Mo)) : PW G (d + 4) 280 9 [.ref 105, .int v1, .int v2, .int v3] [] M 0 0 Q := by
  refine P_iload_n d_280_9 rfl ?_
  refine P_aload_n d_280_10 rfl ?_
  refine A_gI d_280_11 cn_280 fk_CordLoftModel_369 k_105 hW ?_
  refine A_icmp_ge (tgt := 53) d_280_14 rfl hf (fun hf => ?_) (fun hf => ?_)
  · refine P_fgt [false, false, true, false] ?_
    cases hf
    exact k1 hW 
  · refine P_iload_n d_280_17 rfl ?_
    refine P_aload_n d_280_18 rfl ?_
    refine P_iload_n d_280_19 rfl ?_
    refine A_V1 d_280_20 vk_280_408 ml_249 rfl k_105 hW rfl hf (fun r1 M2 hc hf => t_Mo_isTied hW  hc (fun hW hb2 => ?_))
    refine A_if_ne (tgt := 39) d_280_23 rfl hf (fun hf => ?_) (fun hf => ?_)
    · refine P_fgt [true, true, false, true] ?_
      exact t_Mo_spare_j39 hrec k1 hW  hf
    · refine P_aload_n d_280_26 rfl ?_
      refine P_iload_n d_280_27 rfl ?_
      refine A_V1 d_280_28 vk_280_460 ml_281 rfl k_105 hW rfl hf (fun r3 M4 hc hf => t_Mo_without hW  hc (fun hW => ?_))
      refine P_iload_n d_280_31 rfl ?_
      refine A_icmp_ne (tgt := 39) d_280_32 rfl hf (fun hf => ?_) (fun hf => ?_)
      · refine P_fgt [true, true, false, true] ?_
        exact t_Mo_spare_j39 hrec k1 hW  hf
      · refine A_iconst d_280_35 ic_1 ?_
        refine P_goto (tgt := 40) d_280_36 rfl ?_
        refine P_fgt [true, true, false, true] ?_
        exact t_Mo_spare_j40 hrec k1 hW  hf
theorem t_Mo_spare_l9 {G : GT} {d : Nat} {v1 : Int32} {Q : AM → Option Value → Prop} {yo : Int32} {Mo : AM} (k1 : WT Mo → PW G (d + 4) 280 53 [ux, ux, .int yo, ux] [] Mo 0 0 Q)  : ∀ (z : Nat) (v2 : Int32) (v3 : Int32) (M : AM), WT M → f_Mo_spare_l9 v1 z v2 v3 M = some (yo, Mo) → PW G (d + 4) 280 9 [.ref 105, .int v1, .int v2, .int v3] [] M 0 0 Q := by
  intro z
  induction z with
  | zero => intro v2 v3 M hW hf; cases hf
  | succ z ih => intro v2 v3 M hW hf; exact t_Mo_spare_b9 (fun v2 v3 M hW hf => ih v2 v3 M hW hf) k1 hW   hf
def f_Mo_spare  (M : AM) : Option (Int32 × AM) :=
  bnd (f_Mo_pictures  M) (fun r1 M2 => bnd (f_Mo_spare_l9 r1 fu 0 0 M2) (fun y3 M4 => some (y3, M4)))
set_option maxRecDepth 20000 in
theorem t_Mo_spare {G : GT} {d : Nat}  {M : AM} {Q : AM → Option Value → Prop} {r : Int32} {M' : AM} (hW : WT M)  (hf : f_Mo_spare  M = some (r, M')) (k : WT M' → Q M' (some (.int r)))  : Cal G (d + 4) 280 [.ref 105] M Q := by
  refine A_enter ml_280 rfl ?_
  refine P_aload_n d_280_0 rfl ?_
  refine A_V0 d_280_1 vk_280_457 ml_278 rfl k_105 hW rfl hf (fun r1 M2 hc hf => t_Mo_pictures hW  hc (fun hW => ?_))
  refine A_istore_n d_280_4 ml_280 rfl rfl ?_
  refine A_iconst d_280_5 ic_0 ?_
  refine A_istore_n d_280_6 ml_280 rfl rfl ?_
  refine A_iconst d_280_7 ic_0 ?_
  refine A_istore_n d_280_8 ml_280 rfl rfl ?_
  obtain ⟨y3, M4, hl, hf⟩ := bnd_some hf
  refine t_Mo_spare_l9 (fun hW => ?_)  fu _ _ _ hW  hl
  refine P_iload_n d_280_53 rfl ?_
  exact A_iret d_280_54 mr_280 hW hf k
def f_Mo_knot (a1 : Int32) (M : AM) : Option (Int32 × AM) :=
  bnd (f_Mo_isCord a1 M) (fun r1 M2 => if r1 = 0 then some ((-1), M2) else bnd (f_Mo_isTied a1 M2) (fun r3 M4 => if r3 = 0 then bnd (f_Mo_pictures  M4) (fun r5 M6 => bnd (f_Mo_without a1 M6) (fun r7 M8 => some (r5 - r7, M8))) else some ((-1), M4)))
set_option maxRecDepth 20000 in
theorem t_Mo_knot {G : GT} {d : Nat} {a1 : Int32} {M : AM} {Q : AM → Option Value → Prop} {r : Int32} {M' : AM} (hW : WT M)  (hf : f_Mo_knot a1 M = some (r, M')) (k : WT M' → Q M' (some (.int r)))  : Cal G (d + 4) 282 [.ref 105, .int a1] M Q := by
  refine A_enter ml_282 rfl ?_
  refine P_aload_n d_282_0 rfl ?_
  refine P_iload_n d_282_1 rfl ?_
  refine A_V1 d_282_2 vk_282_405 ml_246 rfl k_105 hW rfl hf (fun r1 M2 hc hf => t_Mo_isCord hW  hc (fun hW hb2 => ?_))
  refine A_if_eq (tgt := 29) d_282_5 rfl hf (fun hf => ?_) (fun hf => ?_)
  · refine A_iconst d_282_29 ic_m1 ?_
    exact A_iret d_282_30 mr_282 hW hf k
  · refine P_aload_n d_282_8 rfl ?_
    refine P_iload_n d_282_9 rfl ?_
    refine A_V1 d_282_10 vk_282_408 ml_249 rfl k_105 hW rfl hf (fun r3 M4 hc hf => t_Mo_isTied hW  hc (fun hW hb4 => ?_))
    refine A_if_ne (tgt := 29) d_282_13 rfl hf (fun hf => ?_) (fun hf => ?_)
    · refine A_iconst d_282_29 ic_m1 ?_
      exact A_iret d_282_30 mr_282 hW hf k
    · refine P_aload_n d_282_16 rfl ?_
      refine A_V0 d_282_17 vk_282_457 ml_278 rfl k_105 hW rfl hf (fun r5 M6 hc hf => t_Mo_pictures hW  hc (fun hW => ?_))
      refine P_aload_n d_282_20 rfl ?_
      refine P_iload_n d_282_21 rfl ?_
      refine A_V1 d_282_22 vk_282_460 ml_281 rfl k_105 hW rfl hf (fun r7 M8 hc hf => t_Mo_without hW  hc (fun hW => ?_))
      refine P_isub d_282_25 ?_
      refine P_goto (tgt := 30) d_282_26 rfl ?_
      exact A_iret d_282_30 mr_282 hW hf k
def f_Mo_brightest_b20 (rec : Int32 → Int32 → AM → Option (Int32 × AM)) (v1 : Int32) (v2 : Int32) (v3 : Int32) (M : AM) : Option (Int32 × AM) :=
  if 256 ≤ v3 then some (v2, M) else ald 256 M 125 v3 (fun x1 => if x1 = 0 then rec v2 (v3 + 1) M else if v2 < 0 then rec v3 (v3 + 1) M else bnd (f_Mo_members v3 M) (fun r2 M3 => bnd (f_Mo_members v2 M3) (fun r4 M5 => if r2 ≤ r4 then rec v2 (v3 + 1) M5 else rec v3 (v3 + 1) M5)))
def f_Mo_brightest_l20 (v1 : Int32) : Nat → Int32 → Int32 → AM → Option (Int32 × AM)
  | 0, _, _, _ => none
  | n + 1, v2, v3, M => f_Mo_brightest_b20 (f_Mo_brightest_l20 v1 n) v1 v2 v3 M
set_option maxRecDepth 20000 in
theorem t_Mo_brightest_b20 {G : GT} {d : Nat} {v1 : Int32} {v2 : Int32} {v3 : Int32} {M : AM} {Q : AM → Option Value → Prop} {yo : Int32} {Mo : AM} {rec : Int32 → Int32 → AM → Option (Int32 × AM)} (hrec : ∀ (v2 : Int32) (v3 : Int32) (M : AM), WT M → rec v2 v3 M = some (yo, Mo) → PW G (d + 4) 283 20 [.ref 105, .int v1, .int v2, .int v3] [] M 0 0 Q) (k1 : WT Mo → PW G (d + 4) 283 59 [ux, .int v1, .int yo, ux] [] Mo 0 0 Q) (hW : WT M)   (hf : f_Mo_brightest_b20 rec v1 v2 v3 M = some (yo, Mo)) : PW G (d + 4) 283 20 [.ref 105, .int v1, .int v2, .int v3] [] M 0 0 Q := by
  refine P_iload_n d_283_20 rfl ?_
  refine P_sipush d_283_21 si_256 ?_
  refine A_icmp_ge (tgt := 59) d_283_24 rfl hf (fun hf => ?_) (fun hf => ?_)
  · refine P_fgt [false, true, true, false] ?_
    cases hf
    exact k1 hW 
  · refine P_aload_n d_283_27 rfl ?_
    refine A_gF d_283_28 cn_283 fk_CordLoftModel_72 ft_13_55 k_105 hW ?_
    refine P_iload_n d_283_31 rfl ?_
    refine A_zald d_283_32 k_125 l_125 hW hf (fun hf => ?_)
    refine A_if_eq (tgt := 53) d_283_33 rfl hf (fun hf => ?_) (fun hf => ?_)
    · refine A_iinc d_283_53 ic_1 rfl ml_283 rfl rfl ?_
      refine P_goto (tgt := 20) d_283_56 rfl ?_
      exact hrec _ _ _ hW  hf
    · refine P_iload_n d_283_36 rfl ?_
      refine A_if_lt (tgt := 51) d_283_37 rfl hf (fun hf => ?_) (fun hf => ?_)
      · refine P_iload_n d_283_51 rfl ?_
        refine A_istore_n d_283_52 ml_283 rfl rfl ?_
        refine A_iinc d_283_53 ic_1 rfl ml_283 rfl rfl ?_
        refine P_goto (tgt := 20) d_283_56 rfl ?_
        exact hrec _ _ _ hW  hf
      · refine P_iload_n d_283_40 rfl ?_
        refine A_S1 d_283_41 sk_283_290 ml_250 rfl rfl hf (fun r2 M3 hc hf => t_Mo_members hW  hc (fun hW => ?_))
        refine P_iload_n d_283_44 rfl ?_
        refine A_S1 d_283_45 sk_283_290 ml_250 rfl rfl hf (fun r4 M5 hc hf => t_Mo_members hW  hc (fun hW => ?_))
        refine A_icmp_le (tgt := 53) d_283_48 rfl hf (fun hf => ?_) (fun hf => ?_)
        · refine A_iinc d_283_53 ic_1 rfl ml_283 rfl rfl ?_
          refine P_goto (tgt := 20) d_283_56 rfl ?_
          exact hrec _ _ _ hW  hf
        · refine P_iload_n d_283_51 rfl ?_
          refine A_istore_n d_283_52 ml_283 rfl rfl ?_
          refine A_iinc d_283_53 ic_1 rfl ml_283 rfl rfl ?_
          refine P_goto (tgt := 20) d_283_56 rfl ?_
          exact hrec _ _ _ hW  hf
theorem t_Mo_brightest_l20 {G : GT} {d : Nat} {v1 : Int32} {Q : AM → Option Value → Prop} {yo : Int32} {Mo : AM} (k1 : WT Mo → PW G (d + 4) 283 59 [ux, .int v1, .int yo, ux] [] Mo 0 0 Q)  : ∀ (z : Nat) (v2 : Int32) (v3 : Int32) (M : AM), WT M → f_Mo_brightest_l20 v1 z v2 v3 M = some (yo, Mo) → PW G (d + 4) 283 20 [.ref 105, .int v1, .int v2, .int v3] [] M 0 0 Q := by
  intro z
  induction z with
  | zero => intro v2 v3 M hW hf; cases hf
  | succ z ih => intro v2 v3 M hW hf; exact t_Mo_brightest_b20 (fun v2 v3 M hW hf => ih v2 v3 M hW hf) k1 hW   hf
def f_Mo_brightest (a1 : Int32) (M : AM) : Option (Int32 × AM) :=
  bnd (f_Mo_isIn a1 0 1 M) (fun r1 M2 => if r1 = 0 then some ((-1), M2) else bnd (f_Mo_pictures  M2) (fun r3 M4 => bnd (f_Mo_brightest_l20 a1 fu (-1) 0 M4) (fun y5 M6 => if a1 = 0 then bnd (f_Mo_members y5 M6) (fun r7 M8 => some (r7, M8)) else some (y5, M6))))
set_option maxRecDepth 20000 in
theorem t_Mo_brightest {G : GT} {d : Nat} {a1 : Int32} {M : AM} {Q : AM → Option Value → Prop} {r : Int32} {M' : AM} (hW : WT M)  (hf : f_Mo_brightest a1 M = some (r, M')) (k : WT M' → Q M' (some (.int r)))  : Cal G (d + 4) 283 [.ref 105, .int a1] M Q := by
  refine A_enter ml_283 rfl ?_
  refine P_iload_n d_283_0 rfl ?_
  refine A_iconst d_283_1 ic_0 ?_
  refine A_iconst d_283_2 ic_1 ?_
  refine A_S3 d_283_3 sk_283_399 ml_243 rfl rfl hf (fun r1 M2 hc hf => t_Mo_isIn hW  hc (fun hW hb2 => ?_))
  refine A_if_ne (tgt := 11) d_283_6 rfl hf (fun hf => ?_) (fun hf => ?_)
  · refine P_aload_n d_283_11 rfl ?_
    refine A_V0 d_283_12 vk_283_457 ml_278 rfl k_105 hW rfl hf (fun r3 M4 hc hf => t_Mo_pictures hW  hc (fun hW => ?_))
    refine P_pop d_283_15 rfl ?_
    refine A_iconst d_283_16 ic_m1 ?_
    refine A_istore_n d_283_17 ml_283 rfl rfl ?_
    refine A_iconst d_283_18 ic_0 ?_
    refine A_istore_n d_283_19 ml_283 rfl rfl ?_
    obtain ⟨y5, M6, hl, hf⟩ := bnd_some hf
    refine t_Mo_brightest_l20 (fun hW => ?_)  fu _ _ _ hW  hl
    refine P_iload_n d_283_59 rfl ?_
    refine A_if_ne (tgt := 70) d_283_60 rfl hf (fun hf => ?_) (fun hf => ?_)
    · refine P_iload_n d_283_70 rfl ?_
      exact A_iret d_283_71 mr_283 hW hf k
    · refine P_iload_n d_283_63 rfl ?_
      refine A_S1 d_283_64 sk_283_290 ml_250 rfl rfl hf (fun r7 M8 hc hf => t_Mo_members hW  hc (fun hW => ?_))
      refine P_goto (tgt := 71) d_283_67 rfl ?_
      exact A_iret d_283_71 mr_283 hW hf k
  · refine A_iconst d_283_9 ic_m1 ?_
    exact A_iret d_283_10 mr_283 hW hf k
def f_Mo_wattsOf_b4 (rec : Int32 → Int32 → AM → Option (Int32 × AM)) (v1 : Int32) (v2 : Int32) (v3 : Int32) (M : AM) : Option (Int32 × AM) :=
  if (gI M 105 41) ≤ v3 then some (v2, M) else bnd (f_Mo_has v1 v3 M) (fun r1 M2 => if r1 = 0 then rec (v2 + 0) (v3 + 1) M2 else ald 8 M2 119 v3 (fun x3 => rec (v2 + x3) (v3 + 1) M2))
def f_Mo_wattsOf_l4 (v1 : Int32) : Nat → Int32 → Int32 → AM → Option (Int32 × AM)
  | 0, _, _, _ => none
  | n + 1, v2, v3, M => f_Mo_wattsOf_b4 (f_Mo_wattsOf_l4 v1 n) v1 v2 v3 M
set_option maxRecDepth 20000 in
theorem t_Mo_wattsOf_b4 {G : GT} {d : Nat} {v1 : Int32} {v2 : Int32} {v3 : Int32} {M : AM} {Q : AM → Option Value → Prop} {yo : Int32} {Mo : AM} {rec : Int32 → Int32 → AM → Option (Int32 × AM)} (hrec : ∀ (v2 : Int32) (v3 : Int32) (M : AM), WT M → rec v2 v3 M = some (yo, Mo) → PW G (d + 1) 285 4 [.ref 105, .int v1, .int v2, .int v3] [] M 0 0 Q) (k1 : WT Mo → PW G (d + 1) 285 39 [ux, ux, .int yo, ux] [] Mo 0 0 Q) (hW : WT M)   (hf : f_Mo_wattsOf_b4 rec v1 v2 v3 M = some (yo, Mo)) : PW G (d + 1) 285 4 [.ref 105, .int v1, .int v2, .int v3] [] M 0 0 Q := by
  refine P_iload_n d_285_4 rfl ?_
  refine P_aload_n d_285_5 rfl ?_
  refine A_gI d_285_6 cn_285 fk_CordLoftModel_303 k_105 hW ?_
  refine A_icmp_ge (tgt := 39) d_285_9 rfl hf (fun hf => ?_) (fun hf => ?_)
  · refine P_fgt [false, false, true, false] ?_
    cases hf
    exact k1 hW 
  · refine P_iload_n d_285_12 rfl ?_
    refine P_iload_n d_285_13 rfl ?_
    refine P_iload_n d_285_14 rfl ?_
    refine A_S2 d_285_15 sk_285_326 ml_225 rfl rfl hf (fun r1 M2 hc hf => t_Mo_has hW  hc (fun hW hb2 => ?_))
    refine A_if_eq (tgt := 30) d_285_18 rfl hf (fun hf => ?_) (fun hf => ?_)
    · refine A_iconst d_285_30 ic_0 ?_
      refine P_iadd d_285_31 ?_
      refine A_istore_n d_285_32 ml_285 rfl rfl ?_
      refine A_iinc d_285_33 ic_1 rfl ml_285 rfl rfl ?_
      refine P_goto (tgt := 4) d_285_36 rfl ?_
      exact hrec _ _ _ hW  hf
    · refine P_aload_n d_285_21 rfl ?_
      refine A_gF d_285_22 cn_285 fk_CordLoftModel_54 ft_13_31 k_105 hW ?_
      refine P_iload_n d_285_25 rfl ?_
      refine A_iald d_285_26 k_119 l_119 hW hf (fun hf => ?_)
      refine P_goto (tgt := 31) d_285_27 rfl ?_
      refine P_iadd d_285_31 ?_
      refine A_istore_n d_285_32 ml_285 rfl rfl ?_
      refine A_iinc d_285_33 ic_1 rfl ml_285 rfl rfl ?_
      refine P_goto (tgt := 4) d_285_36 rfl ?_
      exact hrec _ _ _ hW  hf
theorem t_Mo_wattsOf_l4 {G : GT} {d : Nat} {v1 : Int32} {Q : AM → Option Value → Prop} {yo : Int32} {Mo : AM} (k1 : WT Mo → PW G (d + 1) 285 39 [ux, ux, .int yo, ux] [] Mo 0 0 Q)  : ∀ (z : Nat) (v2 : Int32) (v3 : Int32) (M : AM), WT M → f_Mo_wattsOf_l4 v1 z v2 v3 M = some (yo, Mo) → PW G (d + 1) 285 4 [.ref 105, .int v1, .int v2, .int v3] [] M 0 0 Q := by
  intro z
  induction z with
  | zero => intro v2 v3 M hW hf; cases hf
  | succ z ih => intro v2 v3 M hW hf; exact t_Mo_wattsOf_b4 (fun v2 v3 M hW hf => ih v2 v3 M hW hf) k1 hW   hf
def f_Mo_wattsOf (a1 : Int32) (M : AM) : Option (Int32 × AM) :=
  bnd (f_Mo_wattsOf_l4 a1 fu 0 0 M) (fun y1 M2 => some (y1, M2))
set_option maxRecDepth 20000 in
theorem t_Mo_wattsOf {G : GT} {d : Nat} {a1 : Int32} {M : AM} {Q : AM → Option Value → Prop} {r : Int32} {M' : AM} (hW : WT M)  (hf : f_Mo_wattsOf a1 M = some (r, M')) (k : WT M' → Q M' (some (.int r)))  : Cal G (d + 1) 285 [.ref 105, .int a1] M Q := by
  refine A_enter ml_285 rfl ?_
  refine A_iconst d_285_0 ic_0 ?_
  refine A_istore_n d_285_1 ml_285 rfl rfl ?_
  refine A_iconst d_285_2 ic_0 ?_
  refine A_istore_n d_285_3 ml_285 rfl rfl ?_
  obtain ⟨y1, M2, hl, hf⟩ := bnd_some hf
  refine t_Mo_wattsOf_l4 (fun hW => ?_)  fu _ _ _ hW  hl
  refine P_iload_n d_285_39 rfl ?_
  exact A_iret d_285_40 mr_285 hW hf k
def f_Mo_dimmest_b20 (rec : Int32 → Int32 → AM → Option (Int32 × AM)) (v1 : Int32) (v2 : Int32) (v3 : Int32) (M : AM) : Option (Int32 × AM) :=
  if 256 ≤ v3 then some (v2, M) else ald 256 M 125 v3 (fun x1 => if x1 = 0 then rec v2 (v3 + 1) M else if v2 < 0 then rec v3 (v3 + 1) M else bnd (f_Mo_wattsOf v3 M) (fun r2 M3 => bnd (f_Mo_wattsOf v2 M3) (fun r4 M5 => if r4 ≤ r2 then rec v2 (v3 + 1) M5 else rec v3 (v3 + 1) M5)))
def f_Mo_dimmest_l20 (v1 : Int32) : Nat → Int32 → Int32 → AM → Option (Int32 × AM)
  | 0, _, _, _ => none
  | n + 1, v2, v3, M => f_Mo_dimmest_b20 (f_Mo_dimmest_l20 v1 n) v1 v2 v3 M
set_option maxRecDepth 20000 in
theorem t_Mo_dimmest_b20 {G : GT} {d : Nat} {v1 : Int32} {v2 : Int32} {v3 : Int32} {M : AM} {Q : AM → Option Value → Prop} {yo : Int32} {Mo : AM} {rec : Int32 → Int32 → AM → Option (Int32 × AM)} (hrec : ∀ (v2 : Int32) (v3 : Int32) (M : AM), WT M → rec v2 v3 M = some (yo, Mo) → PW G (d + 4) 284 20 [.ref 105, .int v1, .int v2, .int v3] [] M 0 0 Q) (k1 : WT Mo → PW G (d + 4) 284 61 [.ref 105, .int v1, .int yo, ux] [] Mo 0 0 Q) (hW : WT M)   (hf : f_Mo_dimmest_b20 rec v1 v2 v3 M = some (yo, Mo)) : PW G (d + 4) 284 20 [.ref 105, .int v1, .int v2, .int v3] [] M 0 0 Q := by
  refine P_iload_n d_284_20 rfl ?_
  refine P_sipush d_284_21 si_256 ?_
  refine A_icmp_ge (tgt := 61) d_284_24 rfl hf (fun hf => ?_) (fun hf => ?_)
  · refine P_fgt [true, true, true, false] ?_
    cases hf
    exact k1 hW 
  · refine P_aload_n d_284_27 rfl ?_
    refine A_gF d_284_28 cn_284 fk_CordLoftModel_72 ft_13_55 k_105 hW ?_
    refine P_iload_n d_284_31 rfl ?_
    refine A_zald d_284_32 k_125 l_125 hW hf (fun hf => ?_)
    refine A_if_eq (tgt := 55) d_284_33 rfl hf (fun hf => ?_) (fun hf => ?_)
    · refine A_iinc d_284_55 ic_1 rfl ml_284 rfl rfl ?_
      refine P_goto (tgt := 20) d_284_58 rfl ?_
      exact hrec _ _ _ hW  hf
    · refine P_iload_n d_284_36 rfl ?_
      refine A_if_lt (tgt := 53) d_284_37 rfl hf (fun hf => ?_) (fun hf => ?_)
      · refine P_iload_n d_284_53 rfl ?_
        refine A_istore_n d_284_54 ml_284 rfl rfl ?_
        refine A_iinc d_284_55 ic_1 rfl ml_284 rfl rfl ?_
        refine P_goto (tgt := 20) d_284_58 rfl ?_
        exact hrec _ _ _ hW  hf
      · refine P_aload_n d_284_40 rfl ?_
        refine P_iload_n d_284_41 rfl ?_
        refine A_V1 d_284_42 vk_284_463 ml_285 rfl k_105 hW rfl hf (fun r2 M3 hc hf => t_Mo_wattsOf hW  hc (fun hW => ?_))
        refine P_aload_n d_284_45 rfl ?_
        refine P_iload_n d_284_46 rfl ?_
        refine A_V1 d_284_47 vk_284_463 ml_285 rfl k_105 hW rfl hf (fun r4 M5 hc hf => t_Mo_wattsOf hW  hc (fun hW => ?_))
        refine A_icmp_ge (tgt := 55) d_284_50 rfl hf (fun hf => ?_) (fun hf => ?_)
        · refine A_iinc d_284_55 ic_1 rfl ml_284 rfl rfl ?_
          refine P_goto (tgt := 20) d_284_58 rfl ?_
          exact hrec _ _ _ hW  hf
        · refine P_iload_n d_284_53 rfl ?_
          refine A_istore_n d_284_54 ml_284 rfl rfl ?_
          refine A_iinc d_284_55 ic_1 rfl ml_284 rfl rfl ?_
          refine P_goto (tgt := 20) d_284_58 rfl ?_
          exact hrec _ _ _ hW  hf
theorem t_Mo_dimmest_l20 {G : GT} {d : Nat} {v1 : Int32} {Q : AM → Option Value → Prop} {yo : Int32} {Mo : AM} (k1 : WT Mo → PW G (d + 4) 284 61 [.ref 105, .int v1, .int yo, ux] [] Mo 0 0 Q)  : ∀ (z : Nat) (v2 : Int32) (v3 : Int32) (M : AM), WT M → f_Mo_dimmest_l20 v1 z v2 v3 M = some (yo, Mo) → PW G (d + 4) 284 20 [.ref 105, .int v1, .int v2, .int v3] [] M 0 0 Q := by
  intro z
  induction z with
  | zero => intro v2 v3 M hW hf; cases hf
  | succ z ih => intro v2 v3 M hW hf; exact t_Mo_dimmest_b20 (fun v2 v3 M hW hf => ih v2 v3 M hW hf) k1 hW   hf
def f_Mo_dimmest (a1 : Int32) (M : AM) : Option (Int32 × AM) :=
  bnd (f_Mo_isIn a1 0 1 M) (fun r1 M2 => if r1 = 0 then some ((-1), M2) else bnd (f_Mo_pictures  M2) (fun r3 M4 => bnd (f_Mo_dimmest_l20 a1 fu (-1) 0 M4) (fun y5 M6 => if a1 = 0 then bnd (f_Mo_wattsOf y5 M6) (fun r7 M8 => some (r7, M8)) else some (y5, M6))))
set_option maxRecDepth 20000 in
theorem t_Mo_dimmest {G : GT} {d : Nat} {a1 : Int32} {M : AM} {Q : AM → Option Value → Prop} {r : Int32} {M' : AM} (hW : WT M)  (hf : f_Mo_dimmest a1 M = some (r, M')) (k : WT M' → Q M' (some (.int r)))  : Cal G (d + 4) 284 [.ref 105, .int a1] M Q := by
  refine A_enter ml_284 rfl ?_
  refine P_iload_n d_284_0 rfl ?_
  refine A_iconst d_284_1 ic_0 ?_
  refine A_iconst d_284_2 ic_1 ?_
  refine A_S3 d_284_3 sk_284_399 ml_243 rfl rfl hf (fun r1 M2 hc hf => t_Mo_isIn hW  hc (fun hW hb2 => ?_))
  refine A_if_ne (tgt := 11) d_284_6 rfl hf (fun hf => ?_) (fun hf => ?_)
  · refine P_aload_n d_284_11 rfl ?_
    refine A_V0 d_284_12 vk_284_457 ml_278 rfl k_105 hW rfl hf (fun r3 M4 hc hf => t_Mo_pictures hW  hc (fun hW => ?_))
    refine P_pop d_284_15 rfl ?_
    refine A_iconst d_284_16 ic_m1 ?_
    refine A_istore_n d_284_17 ml_284 rfl rfl ?_
    refine A_iconst d_284_18 ic_0 ?_
    refine A_istore_n d_284_19 ml_284 rfl rfl ?_
    obtain ⟨y5, M6, hl, hf⟩ := bnd_some hf
    refine t_Mo_dimmest_l20 (fun hW => ?_)  fu _ _ _ hW  hl
    refine P_iload_n d_284_61 rfl ?_
    refine A_if_ne (tgt := 73) d_284_62 rfl hf (fun hf => ?_) (fun hf => ?_)
    · refine P_iload_n d_284_73 rfl ?_
      exact A_iret d_284_74 mr_284 hW hf k
    · refine P_aload_n d_284_65 rfl ?_
      refine P_iload_n d_284_66 rfl ?_
      refine A_V1 d_284_67 vk_284_463 ml_285 rfl k_105 hW rfl hf (fun r7 M8 hc hf => t_Mo_wattsOf hW  hc (fun hW => ?_))
      refine P_goto (tgt := 74) d_284_70 rfl ?_
      exact A_iret d_284_74 mr_284 hW hf k
  · refine A_iconst d_284_9 ic_m1 ?_
    exact A_iret d_284_10 mr_284 hW hf k
def f_Mo_nearest_b29 (rec : Int32 → Int32 → AM → Option (Int32 × AM)) (v1 : Int32) (v2 : Int32) (v3 : Int32) (v4 : Int32) (M : AM) : Option (Int32 × AM) :=
  if 256 ≤ v4 then some (v3, M) else ald 256 M 125 v4 (fun x1 => if x1 = 0 then rec v3 (v4 + 1) M else if v3 < 0 then rec v4 (v4 + 1) M else bnd (f_Mo_members (v4 ^^^ v1) M) (fun r2 M3 => bnd (f_Mo_members (v3 ^^^ v1) M3) (fun r4 M5 => if r4 ≤ r2 then rec v3 (v4 + 1) M5 else rec v4 (v4 + 1) M5)))
def f_Mo_nearest_l29 (v1 : Int32) (v2 : Int32) : Nat → Int32 → Int32 → AM → Option (Int32 × AM)
  | 0, _, _, _ => none
  | n + 1, v3, v4, M => f_Mo_nearest_b29 (f_Mo_nearest_l29 v1 v2 n) v1 v2 v3 v4 M
set_option maxRecDepth 20000 in
theorem t_Mo_nearest_b29 {G : GT} {d : Nat} {v1 : Int32} {v2 : Int32} {v3 : Int32} {v4 : Int32} {M : AM} {Q : AM → Option Value → Prop} {yo : Int32} {Mo : AM} {rec : Int32 → Int32 → AM → Option (Int32 × AM)} (hrec : ∀ (v3 : Int32) (v4 : Int32) (M : AM), WT M → rec v3 v4 M = some (yo, Mo) → PW G (d + 4) 286 29 [.ref 105, .int v1, .int v2, .int v3, .int v4] [] M 0 0 Q) (k1 : WT Mo → PW G (d + 4) 286 76 [ux, .int v1, .int v2, .int yo, ux] [] Mo 0 0 Q) (hW : WT M)   (hf : f_Mo_nearest_b29 rec v1 v2 v3 v4 M = some (yo, Mo)) : PW G (d + 4) 286 29 [.ref 105, .int v1, .int v2, .int v3, .int v4] [] M 0 0 Q := by
  refine P_iload d_286_29 rfl ?_
  refine P_sipush d_286_31 si_256 ?_
  refine A_icmp_ge (tgt := 76) d_286_34 rfl hf (fun hf => ?_) (fun hf => ?_)
  · refine P_fgt [false, true, true, true, false] ?_
    cases hf
    exact k1 hW 
  · refine P_aload_n d_286_37 rfl ?_
    refine A_gF d_286_38 cn_286 fk_CordLoftModel_72 ft_13_55 k_105 hW ?_
    refine P_iload d_286_41 rfl ?_
    refine A_zald d_286_43 k_125 l_125 hW hf (fun hf => ?_)
    refine A_if_eq (tgt := 70) d_286_44 rfl hf (fun hf => ?_) (fun hf => ?_)
    · refine A_iinc d_286_70 ic_1 rfl ml_286 rfl rfl ?_
      refine P_goto (tgt := 29) d_286_73 rfl ?_
      exact hrec _ _ _ hW  hf
    · refine P_iload_n d_286_47 rfl ?_
      refine A_if_lt (tgt := 67) d_286_48 rfl hf (fun hf => ?_) (fun hf => ?_)
      · refine P_iload d_286_67 rfl ?_
        refine A_istore_n d_286_69 ml_286 rfl rfl ?_
        refine A_iinc d_286_70 ic_1 rfl ml_286 rfl rfl ?_
        refine P_goto (tgt := 29) d_286_73 rfl ?_
        exact hrec _ _ _ hW  hf
      · refine P_iload d_286_51 rfl ?_
        refine P_iload_n d_286_53 rfl ?_
        refine P_ixor d_286_54 ?_
        refine A_S1 d_286_55 sk_286_290 ml_250 rfl rfl hf (fun r2 M3 hc hf => t_Mo_members hW  hc (fun hW => ?_))
        refine P_iload_n d_286_58 rfl ?_
        refine P_iload_n d_286_59 rfl ?_
        refine P_ixor d_286_60 ?_
        refine A_S1 d_286_61 sk_286_290 ml_250 rfl rfl hf (fun r4 M5 hc hf => t_Mo_members hW  hc (fun hW => ?_))
        refine A_icmp_ge (tgt := 70) d_286_64 rfl hf (fun hf => ?_) (fun hf => ?_)
        · refine A_iinc d_286_70 ic_1 rfl ml_286 rfl rfl ?_
          refine P_goto (tgt := 29) d_286_73 rfl ?_
          exact hrec _ _ _ hW  hf
        · refine P_iload d_286_67 rfl ?_
          refine A_istore_n d_286_69 ml_286 rfl rfl ?_
          refine A_iinc d_286_70 ic_1 rfl ml_286 rfl rfl ?_
          refine P_goto (tgt := 29) d_286_73 rfl ?_
          exact hrec _ _ _ hW  hf
theorem t_Mo_nearest_l29 {G : GT} {d : Nat} {v1 : Int32} {v2 : Int32} {Q : AM → Option Value → Prop} {yo : Int32} {Mo : AM} (k1 : WT Mo → PW G (d + 4) 286 76 [ux, .int v1, .int v2, .int yo, ux] [] Mo 0 0 Q)  : ∀ (z : Nat) (v3 : Int32) (v4 : Int32) (M : AM), WT M → f_Mo_nearest_l29 v1 v2 z v3 v4 M = some (yo, Mo) → PW G (d + 4) 286 29 [.ref 105, .int v1, .int v2, .int v3, .int v4] [] M 0 0 Q := by
  intro z
  induction z with
  | zero => intro v3 v4 M hW hf; cases hf
  | succ z ih => intro v3 v4 M hW hf; exact t_Mo_nearest_b29 (fun v3 v4 M hW hf => ih v3 v4 M hW hf) k1 hW   hf
def f_Mo_nearest (a1 : Int32) (a2 : Int32) (M : AM) : Option (Int32 × AM) :=
  bnd (f_Mo_isPicture a1 M) (fun r1 M2 => if r1 = 0 then some ((-1), M2) else bnd (f_Mo_isIn a2 0 1 M2) (fun r3 M4 => if r3 = 0 then some ((-1), M4) else bnd (f_Mo_pictures  M4) (fun r5 M6 => bnd (f_Mo_nearest_l29 a1 a2 fu (-1) 0 M6) (fun y7 M8 => if a2 = 0 then bnd (f_Mo_members (y7 ^^^ a1) M8) (fun r9 M10 => some (r9, M10)) else some (y7, M8)))))
set_option maxRecDepth 20000 in
theorem t_Mo_nearest {G : GT} {d : Nat} {a1 : Int32} {a2 : Int32} {M : AM} {Q : AM → Option Value → Prop} {r : Int32} {M' : AM} (hW : WT M)  (hf : f_Mo_nearest a1 a2 M = some (r, M')) (k : WT M' → Q M' (some (.int r)))  : Cal G (d + 4) 286 [.ref 105, .int a1, .int a2] M Q := by
  refine A_enter ml_286 rfl ?_
  refine P_aload_n d_286_0 rfl ?_
  refine P_iload_n d_286_1 rfl ?_
  refine A_V1 d_286_2 vk_286_438 ml_266 rfl k_105 hW rfl hf (fun r1 M2 hc hf => t_Mo_isPicture hW  hc (fun hW hb2 => ?_))
  refine A_if_eq (tgt := 17) d_286_5 rfl hf (fun hf => ?_) (fun hf => ?_)
  · refine A_iconst d_286_17 ic_m1 ?_
    exact A_iret d_286_18 mr_286 hW hf k
  · refine P_iload_n d_286_8 rfl ?_
    refine A_iconst d_286_9 ic_0 ?_
    refine A_iconst d_286_10 ic_1 ?_
    refine A_S3 d_286_11 sk_286_399 ml_243 rfl rfl hf (fun r3 M4 hc hf => t_Mo_isIn hW  hc (fun hW hb4 => ?_))
    refine A_if_ne (tgt := 19) d_286_14 rfl hf (fun hf => ?_) (fun hf => ?_)
    · refine P_aload_n d_286_19 rfl ?_
      refine A_V0 d_286_20 vk_286_457 ml_278 rfl k_105 hW rfl hf (fun r5 M6 hc hf => t_Mo_pictures hW  hc (fun hW => ?_))
      refine P_pop d_286_23 rfl ?_
      refine A_iconst d_286_24 ic_m1 ?_
      refine A_istore_n d_286_25 ml_286 rfl rfl ?_
      refine A_iconst d_286_26 ic_0 ?_
      refine A_istore d_286_27 ml_286 rfl rfl ?_
      obtain ⟨y7, M8, hl, hf⟩ := bnd_some hf
      refine t_Mo_nearest_l29 (fun hW => ?_)  fu _ _ _ hW  hl
      refine P_iload_n d_286_76 rfl ?_
      refine A_if_ne (tgt := 89) d_286_77 rfl hf (fun hf => ?_) (fun hf => ?_)
      · refine P_iload_n d_286_89 rfl ?_
        exact A_iret d_286_90 mr_286 hW hf k
      · refine P_iload_n d_286_80 rfl ?_
        refine P_iload_n d_286_81 rfl ?_
        refine P_ixor d_286_82 ?_
        refine A_S1 d_286_83 sk_286_290 ml_250 rfl rfl hf (fun r9 M10 hc hf => t_Mo_members hW  hc (fun hW => ?_))
        refine P_goto (tgt := 90) d_286_86 rfl ?_
        exact A_iret d_286_90 mr_286 hW hf k
    · refine A_iconst d_286_17 ic_m1 ?_
      exact A_iret d_286_18 mr_286 hW hf k
def f_Mo_apart_b20 (rec : Int32 → Int32 → AM → Option (Int32 × AM)) (v1 : Int32) (v2 : Int32) (v3 : Int32) (M : AM) : Option (Int32 × AM) :=
  if 256 ≤ v3 then some (v2, M) else ald 5 M 123 0 (fun x1 => ald 256 M 125 (x1 ^^^ v3) (fun x2 => if x2 = 0 then rec v2 (v3 + 1) M else if v2 < 0 then rec v3 (v3 + 1) M else bnd (f_Mo_members v3 M) (fun r3 M4 => bnd (f_Mo_members v2 M4) (fun r5 M6 => if r5 ≤ r3 then rec v2 (v3 + 1) M6 else rec v3 (v3 + 1) M6))))
def f_Mo_apart_l20 (v1 : Int32) : Nat → Int32 → Int32 → AM → Option (Int32 × AM)
  | 0, _, _, _ => none
  | n + 1, v2, v3, M => f_Mo_apart_b20 (f_Mo_apart_l20 v1 n) v1 v2 v3 M
set_option maxRecDepth 20000 in
theorem t_Mo_apart_b20 {G : GT} {d : Nat} {v1 : Int32} {v2 : Int32} {v3 : Int32} {M : AM} {Q : AM → Option Value → Prop} {yo : Int32} {Mo : AM} {rec : Int32 → Int32 → AM → Option (Int32 × AM)} (hrec : ∀ (v2 : Int32) (v3 : Int32) (M : AM), WT M → rec v2 v3 M = some (yo, Mo) → PW G (d + 4) 287 20 [.ref 105, .int v1, .int v2, .int v3] [] M 0 0 Q) (k1 : WT Mo → PW G (d + 4) 287 66 [ux, .int v1, .int yo, ux] [] Mo 0 0 Q) (hW : WT M)   (hf : f_Mo_apart_b20 rec v1 v2 v3 M = some (yo, Mo)) : PW G (d + 4) 287 20 [.ref 105, .int v1, .int v2, .int v3] [] M 0 0 Q := by
  refine P_iload_n d_287_20 rfl ?_
  refine P_sipush d_287_21 si_256 ?_
  refine A_icmp_ge (tgt := 66) d_287_24 rfl hf (fun hf => ?_) (fun hf => ?_)
  · refine P_fgt [false, true, true, false] ?_
    cases hf
    exact k1 hW 
  · refine P_aload_n d_287_27 rfl ?_
    refine A_gF d_287_28 cn_287 fk_CordLoftModel_72 ft_13_55 k_105 hW ?_
    refine P_aload_n d_287_31 rfl ?_
    refine A_gF d_287_32 cn_287 fk_CordLoftModel_66 ft_13_50 k_105 hW ?_
    refine A_iconst d_287_35 ic_0 ?_
    refine A_iald d_287_36 k_123 l_123 hW hf (fun hf => ?_)
    refine P_iload_n d_287_37 rfl ?_
    refine P_ixor d_287_38 ?_
    refine A_zald d_287_39 k_125 l_125 hW hf (fun hf => ?_)
    refine A_if_eq (tgt := 60) d_287_40 rfl hf (fun hf => ?_) (fun hf => ?_)
    · refine A_iinc d_287_60 ic_1 rfl ml_287 rfl rfl ?_
      refine P_goto (tgt := 20) d_287_63 rfl ?_
      exact hrec _ _ _ hW  hf
    · refine P_iload_n d_287_43 rfl ?_
      refine A_if_lt (tgt := 58) d_287_44 rfl hf (fun hf => ?_) (fun hf => ?_)
      · refine P_iload_n d_287_58 rfl ?_
        refine A_istore_n d_287_59 ml_287 rfl rfl ?_
        refine A_iinc d_287_60 ic_1 rfl ml_287 rfl rfl ?_
        refine P_goto (tgt := 20) d_287_63 rfl ?_
        exact hrec _ _ _ hW  hf
      · refine P_iload_n d_287_47 rfl ?_
        refine A_S1 d_287_48 sk_287_290 ml_250 rfl rfl hf (fun r3 M4 hc hf => t_Mo_members hW  hc (fun hW => ?_))
        refine P_iload_n d_287_51 rfl ?_
        refine A_S1 d_287_52 sk_287_290 ml_250 rfl rfl hf (fun r5 M6 hc hf => t_Mo_members hW  hc (fun hW => ?_))
        refine A_icmp_ge (tgt := 60) d_287_55 rfl hf (fun hf => ?_) (fun hf => ?_)
        · refine A_iinc d_287_60 ic_1 rfl ml_287 rfl rfl ?_
          refine P_goto (tgt := 20) d_287_63 rfl ?_
          exact hrec _ _ _ hW  hf
        · refine P_iload_n d_287_58 rfl ?_
          refine A_istore_n d_287_59 ml_287 rfl rfl ?_
          refine A_iinc d_287_60 ic_1 rfl ml_287 rfl rfl ?_
          refine P_goto (tgt := 20) d_287_63 rfl ?_
          exact hrec _ _ _ hW  hf
theorem t_Mo_apart_l20 {G : GT} {d : Nat} {v1 : Int32} {Q : AM → Option Value → Prop} {yo : Int32} {Mo : AM} (k1 : WT Mo → PW G (d + 4) 287 66 [ux, .int v1, .int yo, ux] [] Mo 0 0 Q)  : ∀ (z : Nat) (v2 : Int32) (v3 : Int32) (M : AM), WT M → f_Mo_apart_l20 v1 z v2 v3 M = some (yo, Mo) → PW G (d + 4) 287 20 [.ref 105, .int v1, .int v2, .int v3] [] M 0 0 Q := by
  intro z
  induction z with
  | zero => intro v2 v3 M hW hf; cases hf
  | succ z ih => intro v2 v3 M hW hf; exact t_Mo_apart_b20 (fun v2 v3 M hW hf => ih v2 v3 M hW hf) k1 hW   hf
def f_Mo_apart (a1 : Int32) (M : AM) : Option (Int32 × AM) :=
  bnd (f_Mo_isIn a1 0 1 M) (fun r1 M2 => if r1 = 0 then some ((-1), M2) else bnd (f_Mo_pictures  M2) (fun r3 M4 => bnd (f_Mo_apart_l20 a1 fu (-1) 1 M4) (fun y5 M6 => if 0 ≤ y5 then if a1 = 0 then bnd (f_Mo_members y5 M6) (fun r7 M8 => some (r7, M8)) else some (y5, M6) else some ((-1), M6))))
set_option maxRecDepth 20000 in
theorem t_Mo_apart {G : GT} {d : Nat} {a1 : Int32} {M : AM} {Q : AM → Option Value → Prop} {r : Int32} {M' : AM} (hW : WT M)  (hf : f_Mo_apart a1 M = some (r, M')) (k : WT M' → Q M' (some (.int r)))  : Cal G (d + 4) 287 [.ref 105, .int a1] M Q := by
  refine A_enter ml_287 rfl ?_
  refine P_iload_n d_287_0 rfl ?_
  refine A_iconst d_287_1 ic_0 ?_
  refine A_iconst d_287_2 ic_1 ?_
  refine A_S3 d_287_3 sk_287_399 ml_243 rfl rfl hf (fun r1 M2 hc hf => t_Mo_isIn hW  hc (fun hW hb2 => ?_))
  refine A_if_ne (tgt := 11) d_287_6 rfl hf (fun hf => ?_) (fun hf => ?_)
  · refine P_aload_n d_287_11 rfl ?_
    refine A_V0 d_287_12 vk_287_457 ml_278 rfl k_105 hW rfl hf (fun r3 M4 hc hf => t_Mo_pictures hW  hc (fun hW => ?_))
    refine P_pop d_287_15 rfl ?_
    refine A_iconst d_287_16 ic_m1 ?_
    refine A_istore_n d_287_17 ml_287 rfl rfl ?_
    refine A_iconst d_287_18 ic_1 ?_
    refine A_istore_n d_287_19 ml_287 rfl rfl ?_
    obtain ⟨y5, M6, hl, hf⟩ := bnd_some hf
    refine t_Mo_apart_l20 (fun hW => ?_)  fu _ _ _ hW  hl
    refine P_iload_n d_287_66 rfl ?_
    refine A_if_ge (tgt := 74) d_287_67 rfl hf (fun hf => ?_) (fun hf => ?_)
    · refine P_iload_n d_287_74 rfl ?_
      refine A_if_ne (tgt := 85) d_287_75 rfl hf (fun hf => ?_) (fun hf => ?_)
      · refine P_iload_n d_287_85 rfl ?_
        exact A_iret d_287_86 mr_287 hW hf k
      · refine P_iload_n d_287_78 rfl ?_
        refine A_S1 d_287_79 sk_287_290 ml_250 rfl rfl hf (fun r7 M8 hc hf => t_Mo_members hW  hc (fun hW => ?_))
        refine P_goto (tgt := 86) d_287_82 rfl ?_
        exact A_iret d_287_86 mr_287 hW hf k
    · refine A_iconst d_287_70 ic_m1 ?_
      refine P_goto (tgt := 86) d_287_71 rfl ?_
      exact A_iret d_287_86 mr_287 hW hf k
  · refine A_iconst d_287_9 ic_m1 ?_
    exact A_iret d_287_10 mr_287 hW hf k
def f_Mo_mark_j71 (rec : Int32 → Int32 → AM → Option (Int32 × AM)) (v1 : Int32) (v2 : Int32) (v3 : Int32) (v5 : Int32) (M : AM) : Option (Int32 × AM) :=
  rec 1 (v5 + 1) M
set_option maxRecDepth 20000 in
theorem t_Mo_mark_j71 {G : GT} {d : Nat} {v1 : Int32} {v2 : Int32} {v3 : Int32} {v5 : Int32} {M : AM} {Q : AM → Option Value → Prop} {yo : Int32} {Mo : AM} {rec : Int32 → Int32 → AM → Option (Int32 × AM)} (hrec : ∀ (v4 : Int32) (v5 : Int32) (M : AM), WT M → rec v4 v5 M = some (yo, Mo) → PW G (d + 2) 288 31 [.ref 105, .int v1, .int v2, .int v3, .int v4, .int v5] [] M 0 0 Q) (k1 : WT Mo → PW G (d + 2) 288 84 [.ref 105, .int v1, .int v2, .int v3, .int yo, ux] [] Mo 0 0 Q) (hW : WT M)  (hf : f_Mo_mark_j71 rec v1 v2 v3 v5 M = some (yo, Mo)) : PW G (d + 2) 288 71 [.ref 105, .int v1, .int v2, .int v3, ux, .int v5] [] M 0 0 Q := by
  refine A_iconst d_288_71 ic_1 ?_
  refine P_goto (tgt := 76) d_288_72 rfl ?_
  refine A_istore d_288_76 ml_288 rfl rfl ?_
  refine A_iinc d_288_78 ic_1 rfl ml_288 rfl rfl ?_
  refine P_goto (tgt := 31) d_288_81 rfl ?_
  exact hrec _ _ _ hW  hf
def f_Mo_mark_b31 (rec : Int32 → Int32 → AM → Option (Int32 × AM)) (v1 : Int32) (v2 : Int32) (v3 : Int32) (v4 : Int32) (v5 : Int32) (M : AM) : Option (Int32 × AM) :=
  if (gI M 105 42) ≤ v5 then some (v4, M) else if v4 = 0 then rec 0 (v5 + 1) M else bnd (f_Mo_isTied v5 M) (fun r1 M2 => if r1 = 0 then ald 8 M2 121 v5 (fun x3 => bnd (f_Mo_members (v3 &&& x3) M2) (fun r4 M5 => if (r4 % 2) = 0 then f_Mo_mark_j71 rec v1 v2 v3 v5 M5 else rec 0 (v5 + 1) M5)) else f_Mo_mark_j71 rec v1 v2 v3 v5 M2)
def f_Mo_mark_l31 (v1 : Int32) (v2 : Int32) (v3 : Int32) : Nat → Int32 → Int32 → AM → Option (Int32 × AM)
  | 0, _, _, _ => none
  | n + 1, v4, v5, M => f_Mo_mark_b31 (f_Mo_mark_l31 v1 v2 v3 n) v1 v2 v3 v4 v5 M
set_option maxRecDepth 20000 in
theorem t_Mo_mark_b31 {G : GT} {d : Nat} {v1 : Int32} {v2 : Int32} {v3 : Int32} {v4 : Int32} {v5 : Int32} {M : AM} {Q : AM → Option Value → Prop} {yo : Int32} {Mo : AM} {rec : Int32 → Int32 → AM → Option (Int32 × AM)} (hrec : ∀ (v4 : Int32) (v5 : Int32) (M : AM), WT M → rec v4 v5 M = some (yo, Mo) → PW G (d + 2) 288 31 [.ref 105, .int v1, .int v2, .int v3, .int v4, .int v5] [] M 0 0 Q) (k1 : WT Mo → PW G (d + 2) 288 84 [.ref 105, .int v1, .int v2, .int v3, .int yo, ux] [] Mo 0 0 Q) (hW : WT M)   (hf : f_Mo_mark_b31 rec v1 v2 v3 v4 v5 M = some (yo, Mo)) : PW G (d + 2) 288 31 [.ref 105, .int v1, .int v2, .int v3, .int v4, .int v5] [] M 0 0 Q := by
  refine P_iload d_288_31 rfl ?_
  refine P_aload_n d_288_33 rfl ?_
  refine A_gI d_288_34 cn_288 fk_CordLoftModel_369 k_105 hW ?_
  refine A_icmp_ge (tgt := 84) d_288_37 rfl hf (fun hf => ?_) (fun hf => ?_)
  · refine P_fgt [true, true, true, true, true, false] ?_
    cases hf
    exact k1 hW 
  · refine P_iload d_288_40 rfl ?_
    refine A_if_eq (tgt := 75) d_288_42 rfl hf (fun hf => ?_) (fun hf => ?_)
    · refine A_iconst d_288_75 ic_0 ?_
      refine A_istore d_288_76 ml_288 rfl rfl ?_
      refine A_iinc d_288_78 ic_1 rfl ml_288 rfl rfl ?_
      refine P_goto (tgt := 31) d_288_81 rfl ?_
      exact hrec _ _ _ hW  hf
    · refine P_aload_n d_288_45 rfl ?_
      refine P_iload d_288_46 rfl ?_
      refine A_V1 d_288_48 vk_288_408 ml_249 rfl k_105 hW rfl hf (fun r1 M2 hc hf => t_Mo_isTied hW  hc (fun hW hb2 => ?_))
      refine A_if_ne (tgt := 71) d_288_51 rfl hf (fun hf => ?_) (fun hf => ?_)
      · refine P_fgt [true, true, true, true, false, true] ?_
        exact t_Mo_mark_j71 hrec k1 hW  hf
      · refine P_iload_n d_288_54 rfl ?_
        refine P_aload_n d_288_55 rfl ?_
        refine A_gF d_288_56 cn_288 fk_CordLoftModel_60 ft_13_33 k_105 hW ?_
        refine P_iload d_288_59 rfl ?_
        refine A_iald d_288_61 k_121 l_121 hW hf (fun hf => ?_)
        refine P_iand d_288_62 ?_
        refine A_S1 d_288_63 sk_288_290 ml_250 rfl rfl hf (fun r4 M5 hc hf => t_Mo_members hW  hc (fun hW => ?_))
        refine A_iconst d_288_66 ic_2 ?_
        refine P_irem d_288_67 nz_2 ?_
        refine A_if_ne (tgt := 75) d_288_68 rfl hf (fun hf => ?_) (fun hf => ?_)
        · refine A_iconst d_288_75 ic_0 ?_
          refine A_istore d_288_76 ml_288 rfl rfl ?_
          refine A_iinc d_288_78 ic_1 rfl ml_288 rfl rfl ?_
          refine P_goto (tgt := 31) d_288_81 rfl ?_
          exact hrec _ _ _ hW  hf
        · refine P_fgt [true, true, true, true, false, true] ?_
          exact t_Mo_mark_j71 hrec k1 hW  hf
theorem t_Mo_mark_l31 {G : GT} {d : Nat} {v1 : Int32} {v2 : Int32} {v3 : Int32} {Q : AM → Option Value → Prop} {yo : Int32} {Mo : AM} (k1 : WT Mo → PW G (d + 2) 288 84 [.ref 105, .int v1, .int v2, .int v3, .int yo, ux] [] Mo 0 0 Q)  : ∀ (z : Nat) (v4 : Int32) (v5 : Int32) (M : AM), WT M → f_Mo_mark_l31 v1 v2 v3 z v4 v5 M = some (yo, Mo) → PW G (d + 2) 288 31 [.ref 105, .int v1, .int v2, .int v3, .int v4, .int v5] [] M 0 0 Q := by
  intro z
  induction z with
  | zero => intro v4 v5 M hW hf; cases hf
  | succ z ih => intro v4 v5 M hW hf; exact t_Mo_mark_b31 (fun v4 v5 M hW hf => ih v4 v5 M hW hf) k1 hW   hf
def f_Mo_mark_b15 (rec : Int32 → Int32 → AM → Option (Int32 × AM)) (v1 : Int32) (v2 : Int32) (v3 : Int32) (M : AM) : Option (Int32 × AM) :=
  if ((1 : Int32) <<< ((gI M 105 41) &&& 31)) ≤ v3 then some (v2, M) else bnd (f_Mo_mark_l31 v1 v2 v3 fu 1 0 M) (fun y1 M2 => if y1 = 0 then rec v2 (v3 + 1) M2 else if v2 < 0 then rec v3 (v3 + 1) M2 else bnd (f_Mo_members v3 M2) (fun r3 M4 => bnd (f_Mo_members v2 M4) (fun r5 M6 => if r5 ≤ r3 then rec v2 (v3 + 1) M6 else rec v3 (v3 + 1) M6)))
def f_Mo_mark_l15 (v1 : Int32) : Nat → Int32 → Int32 → AM → Option (Int32 × AM)
  | 0, _, _, _ => none
  | n + 1, v2, v3, M => f_Mo_mark_b15 (f_Mo_mark_l15 v1 n) v1 v2 v3 M
set_option maxRecDepth 20000 in
theorem t_Mo_mark_b15 {G : GT} {d : Nat} {v1 : Int32} {v2 : Int32} {v3 : Int32} {M : AM} {Q : AM → Option Value → Prop} {yo : Int32} {Mo : AM} {rec : Int32 → Int32 → AM → Option (Int32 × AM)} (hrec : ∀ (v2 : Int32) (v3 : Int32) (M : AM), WT M → rec v2 v3 M = some (yo, Mo) → PW G (d + 2) 288 15 [.ref 105, .int v1, .int v2, .int v3, ux, ux] [] M 0 0 Q) (k1 : WT Mo → PW G (d + 2) 288 112 [ux, .int v1, .int yo, ux, ux, ux] [] Mo 0 0 Q) (hW : WT M)   (hf : f_Mo_mark_b15 rec v1 v2 v3 M = some (yo, Mo)) : PW G (d + 2) 288 15 [.ref 105, .int v1, .int v2, .int v3, ux, ux] [] M 0 0 Q := by
  refine P_iload_n d_288_15 rfl ?_
  refine A_iconst d_288_16 ic_1 ?_
  refine P_aload_n d_288_17 rfl ?_
  refine A_gI d_288_18 cn_288 fk_CordLoftModel_303 k_105 hW ?_
  refine P_ishl d_288_21 ?_
  refine A_icmp_ge (tgt := 112) d_288_22 rfl hf (fun hf => ?_) (fun hf => ?_)
  · refine P_fgt [false, true, true, false, false, false] ?_
    cases hf
    exact k1 hW 
  · refine A_iconst d_288_25 ic_1 ?_
    refine A_istore d_288_26 ml_288 rfl rfl ?_
    refine A_iconst d_288_28 ic_0 ?_
    refine A_istore d_288_29 ml_288 rfl rfl ?_
    obtain ⟨y1, M2, hl, hf⟩ := bnd_some hf
    refine t_Mo_mark_l31 (fun hW => ?_)  fu _ _ _ hW  hl
    refine P_iload d_288_84 rfl ?_
    refine A_if_eq (tgt := 106) d_288_86 rfl hf (fun hf => ?_) (fun hf => ?_)
    · refine A_iinc d_288_106 ic_1 rfl ml_288 rfl rfl ?_
      refine P_goto (tgt := 15) d_288_109 rfl ?_
      refine P_fgt [true, true, true, true, false, false] ?_
      exact hrec _ _ _ hW  hf
    · refine P_iload_n d_288_89 rfl ?_
      refine A_if_lt (tgt := 104) d_288_90 rfl hf (fun hf => ?_) (fun hf => ?_)
      · refine P_iload_n d_288_104 rfl ?_
        refine A_istore_n d_288_105 ml_288 rfl rfl ?_
        refine A_iinc d_288_106 ic_1 rfl ml_288 rfl rfl ?_
        refine P_goto (tgt := 15) d_288_109 rfl ?_
        refine P_fgt [true, true, true, true, false, false] ?_
        exact hrec _ _ _ hW  hf
      · refine P_iload_n d_288_93 rfl ?_
        refine A_S1 d_288_94 sk_288_290 ml_250 rfl rfl hf (fun r3 M4 hc hf => t_Mo_members hW  hc (fun hW => ?_))
        refine P_iload_n d_288_97 rfl ?_
        refine A_S1 d_288_98 sk_288_290 ml_250 rfl rfl hf (fun r5 M6 hc hf => t_Mo_members hW  hc (fun hW => ?_))
        refine A_icmp_ge (tgt := 106) d_288_101 rfl hf (fun hf => ?_) (fun hf => ?_)
        · refine A_iinc d_288_106 ic_1 rfl ml_288 rfl rfl ?_
          refine P_goto (tgt := 15) d_288_109 rfl ?_
          refine P_fgt [true, true, true, true, false, false] ?_
          exact hrec _ _ _ hW  hf
        · refine P_iload_n d_288_104 rfl ?_
          refine A_istore_n d_288_105 ml_288 rfl rfl ?_
          refine A_iinc d_288_106 ic_1 rfl ml_288 rfl rfl ?_
          refine P_goto (tgt := 15) d_288_109 rfl ?_
          refine P_fgt [true, true, true, true, false, false] ?_
          exact hrec _ _ _ hW  hf
theorem t_Mo_mark_l15 {G : GT} {d : Nat} {v1 : Int32} {Q : AM → Option Value → Prop} {yo : Int32} {Mo : AM} (k1 : WT Mo → PW G (d + 2) 288 112 [ux, .int v1, .int yo, ux, ux, ux] [] Mo 0 0 Q)  : ∀ (z : Nat) (v2 : Int32) (v3 : Int32) (M : AM), WT M → f_Mo_mark_l15 v1 z v2 v3 M = some (yo, Mo) → PW G (d + 2) 288 15 [.ref 105, .int v1, .int v2, .int v3, ux, ux] [] M 0 0 Q := by
  intro z
  induction z with
  | zero => intro v2 v3 M hW hf; cases hf
  | succ z ih => intro v2 v3 M hW hf; exact t_Mo_mark_b15 (fun v2 v3 M hW hf => ih v2 v3 M hW hf) k1 hW   hf
def f_Mo_mark (a1 : Int32) (M : AM) : Option (Int32 × AM) :=
  bnd (f_Mo_isIn a1 0 1 M) (fun r1 M2 => if r1 = 0 then some ((-1), M2) else bnd (f_Mo_mark_l15 a1 fu (-1) 1 M2) (fun y3 M4 => if 0 ≤ y3 then if a1 = 0 then bnd (f_Mo_members y3 M4) (fun r5 M6 => some (r5, M6)) else some (y3, M4) else some ((-1), M4)))
set_option maxRecDepth 20000 in
theorem t_Mo_mark {G : GT} {d : Nat} {a1 : Int32} {M : AM} {Q : AM → Option Value → Prop} {r : Int32} {M' : AM} (hW : WT M)  (hf : f_Mo_mark a1 M = some (r, M')) (k : WT M' → Q M' (some (.int r)))  : Cal G (d + 2) 288 [.ref 105, .int a1] M Q := by
  refine A_enter ml_288 rfl ?_
  refine P_iload_n d_288_0 rfl ?_
  refine A_iconst d_288_1 ic_0 ?_
  refine A_iconst d_288_2 ic_1 ?_
  refine A_S3 d_288_3 sk_288_399 ml_243 rfl rfl hf (fun r1 M2 hc hf => t_Mo_isIn hW  hc (fun hW hb2 => ?_))
  refine A_if_ne (tgt := 11) d_288_6 rfl hf (fun hf => ?_) (fun hf => ?_)
  · refine A_iconst d_288_11 ic_m1 ?_
    refine A_istore_n d_288_12 ml_288 rfl rfl ?_
    refine A_iconst d_288_13 ic_1 ?_
    refine A_istore_n d_288_14 ml_288 rfl rfl ?_
    obtain ⟨y3, M4, hl, hf⟩ := bnd_some hf
    refine t_Mo_mark_l15 (fun hW => ?_)  fu _ _ _ hW  hl
    refine P_iload_n d_288_112 rfl ?_
    refine A_if_ge (tgt := 120) d_288_113 rfl hf (fun hf => ?_) (fun hf => ?_)
    · refine P_iload_n d_288_120 rfl ?_
      refine A_if_ne (tgt := 131) d_288_121 rfl hf (fun hf => ?_) (fun hf => ?_)
      · refine P_iload_n d_288_131 rfl ?_
        exact A_iret d_288_132 mr_288 hW hf k
      · refine P_iload_n d_288_124 rfl ?_
        refine A_S1 d_288_125 sk_288_290 ml_250 rfl rfl hf (fun r5 M6 hc hf => t_Mo_members hW  hc (fun hW => ?_))
        refine P_goto (tgt := 132) d_288_128 rfl ?_
        exact A_iret d_288_132 mr_288 hW hf k
    · refine A_iconst d_288_116 ic_m1 ?_
      refine P_goto (tgt := 132) d_288_117 rfl ?_
      exact A_iret d_288_132 mr_288 hW hf k
  · refine A_iconst d_288_9 ic_m1 ?_
    exact A_iret d_288_10 mr_288 hW hf k
def f_Mo_layFar_b100 (rec : Int32 → AM → Option (Unit × AM)) (v2 : Int32) (v3 : Int32) (v4 : Int32) (M : AM) : Option (Unit × AM) :=
  if (gI M 105 42) ≤ v4 then some ((), M) else ald 8 M 121 v4 (fun x1 => bnd (f_Mo_isTied v4 M) (fun r2 M3 => if r2 = 0 then ald 256 M3 127 (v3 ^^^ x1) (fun x4 => if v2 < x4 then ast 256 M3 127 (v3 ^^^ x1) (v2 + 1) (fun M5 => ald 256 M5 128 (v3 ^^^ x1) (fun x6 => ald 256 M5 128 v3 (fun x7 => ast 256 M5 128 (v3 ^^^ x1) (x6 + x7) (fun M8 => rec (v4 + 1) M8)))) else rec (v4 + 1) M3) else rec (v4 + 1) M3))
def f_Mo_layFar_l100 (v2 : Int32) (v3 : Int32) : Nat → Int32 → AM → Option (Unit × AM)
  | 0, _, _ => none
  | n + 1, v4, M => f_Mo_layFar_b100 (f_Mo_layFar_l100 v2 v3 n) v2 v3 v4 M
set_option maxRecDepth 20000 in
theorem t_Mo_layFar_b100 {G : GT} {d : Nat} {v2 : Int32} {v3 : Int32} {v4 : Int32} {M : AM} {Q : AM → Option Value → Prop} {yo : Unit} {Mo : AM} {rec : Int32 → AM → Option (Unit × AM)} (hrec : ∀ (v4 : Int32) (M : AM), WT M → rec v4 M = some (yo, Mo) → PW G (d + 2) 290 100 [.ref 105, ux, .int v2, .int v3, .int v4, ux] [] M 0 0 Q) (k1 : WT Mo → PW G (d + 2) 290 175 [.ref 105, ux, .int v2, .int v3, ux, ux] [] Mo 0 0 Q) (hW : WT M)   (hf : f_Mo_layFar_b100 rec v2 v3 v4 M = some (yo, Mo)) : PW G (d + 2) 290 100 [.ref 105, ux, .int v2, .int v3, .int v4, ux] [] M 0 0 Q := by
  refine P_iload d_290_100 rfl ?_
  refine P_aload_n d_290_102 rfl ?_
  refine A_gI d_290_103 cn_290 fk_CordLoftModel_369 k_105 hW ?_
  refine A_icmp_ge (tgt := 175) d_290_106 rfl hf (fun hf => ?_) (fun hf => ?_)
  · refine P_fgt [true, false, true, true, false, false] ?_
    cases hf
    exact k1 hW 
  · refine P_iload_n d_290_109 rfl ?_
    refine P_aload_n d_290_110 rfl ?_
    refine A_gF d_290_111 cn_290 fk_CordLoftModel_60 ft_13_33 k_105 hW ?_
    refine P_iload d_290_114 rfl ?_
    refine A_iald d_290_116 k_121 l_121 hW hf (fun hf => ?_)
    refine P_ixor d_290_117 ?_
    refine A_istore d_290_118 ml_290 rfl rfl ?_
    refine P_aload_n d_290_120 rfl ?_
    refine P_iload d_290_121 rfl ?_
    refine A_V1 d_290_123 vk_290_408 ml_249 rfl k_105 hW rfl hf (fun r2 M3 hc hf => t_Mo_isTied hW  hc (fun hW hb3 => ?_))
    refine A_if_ne (tgt := 169) d_290_126 rfl hf (fun hf => ?_) (fun hf => ?_)
    · refine A_iinc d_290_169 ic_1 rfl ml_290 rfl rfl ?_
      refine P_goto (tgt := 100) d_290_172 rfl ?_
      refine P_fgt [true, false, true, true, true, false] ?_
      exact hrec _ _ hW  hf
    · refine P_aload_n d_290_129 rfl ?_
      refine A_gF d_290_130 cn_290 fk_CordLoftModel_79 ft_13_57 k_105 hW ?_
      refine P_iload d_290_133 rfl ?_
      refine A_iald d_290_135 k_127 l_127 hW hf (fun hf => ?_)
      refine P_iload_n d_290_136 rfl ?_
      refine A_icmp_gt (tgt := 143) d_290_137 rfl hf (fun hf => ?_) (fun hf => ?_)
      · refine P_aload_n d_290_143 rfl ?_
        refine A_gF d_290_144 cn_290 fk_CordLoftModel_79 ft_13_57 k_105 hW ?_
        refine P_iload d_290_147 rfl ?_
        refine P_iload_n d_290_149 rfl ?_
        refine A_iconst d_290_150 ic_1 ?_
        refine P_iadd d_290_151 ?_
        refine A_iast d_290_152 k_127 l_127 hW hf (fun hW hf => ?_)
        refine P_aload_n d_290_153 rfl ?_
        refine A_gF d_290_154 cn_290 fk_CordLoftModel_82 ft_13_58 k_105 hW ?_
        refine P_iload d_290_157 rfl ?_
        refine P_dup2 d_290_159 rfl rfl ?_
        refine A_iald d_290_160 k_128 l_128 hW hf (fun hf => ?_)
        refine P_aload_n d_290_161 rfl ?_
        refine A_gF d_290_162 cn_290 fk_CordLoftModel_82 ft_13_58 k_105 hW ?_
        refine P_iload_n d_290_165 rfl ?_
        refine A_iald d_290_166 k_128 l_128 hW hf (fun hf => ?_)
        refine P_iadd d_290_167 ?_
        refine A_iast d_290_168 k_128 l_128 hW hf (fun hW hf => ?_)
        refine A_iinc d_290_169 ic_1 rfl ml_290 rfl rfl ?_
        refine P_goto (tgt := 100) d_290_172 rfl ?_
        refine P_fgt [true, false, true, true, true, false] ?_
        exact hrec _ _ hW  hf
      · refine P_goto (tgt := 169) d_290_140 rfl ?_
        refine A_iinc d_290_169 ic_1 rfl ml_290 rfl rfl ?_
        refine P_goto (tgt := 100) d_290_172 rfl ?_
        refine P_fgt [true, false, true, true, true, false] ?_
        exact hrec _ _ hW  hf
theorem t_Mo_layFar_l100 {G : GT} {d : Nat} {v2 : Int32} {v3 : Int32} {Q : AM → Option Value → Prop} {yo : Unit} {Mo : AM} (k1 : WT Mo → PW G (d + 2) 290 175 [.ref 105, ux, .int v2, .int v3, ux, ux] [] Mo 0 0 Q)  : ∀ (z : Nat) (v4 : Int32) (M : AM), WT M → f_Mo_layFar_l100 v2 v3 z v4 M = some (yo, Mo) → PW G (d + 2) 290 100 [.ref 105, ux, .int v2, .int v3, .int v4, ux] [] M 0 0 Q := by
  intro z
  induction z with
  | zero => intro v4 M hW hf; cases hf
  | succ z ih => intro v4 M hW hf; exact t_Mo_layFar_b100 (fun v4 M hW hf => ih v4 M hW hf) k1 hW   hf
def f_Mo_layFar_b63 (rec : Int32 → AM → Option (Unit × AM)) (v2 : Int32) (v3 : Int32) (M : AM) : Option (Unit × AM) :=
  if ((1 : Int32) <<< ((gI M 105 41) &&& 31)) ≤ v3 then some ((), M) else ald 256 M 127 v3 (fun x1 => if x1 = v2 then bnd (f_Mo_members v3 M) (fun r2 M3 => if (gI M3 105 44) ≤ r2 then bnd (f_Mo_layFar_l100 v2 v3 fu 0 M3) (fun y4 M5 => rec (v3 + 1) M5) else rec (v3 + 1) M3) else rec (v3 + 1) M)
def f_Mo_layFar_l63 (v2 : Int32) : Nat → Int32 → AM → Option (Unit × AM)
  | 0, _, _ => none
  | n + 1, v3, M => f_Mo_layFar_b63 (f_Mo_layFar_l63 v2 n) v2 v3 M
set_option maxRecDepth 20000 in
theorem t_Mo_layFar_b63 {G : GT} {d : Nat} {v2 : Int32} {v3 : Int32} {M : AM} {Q : AM → Option Value → Prop} {yo : Unit} {Mo : AM} {rec : Int32 → AM → Option (Unit × AM)} (hrec : ∀ (v3 : Int32) (M : AM), WT M → rec v3 M = some (yo, Mo) → PW G (d + 2) 290 63 [.ref 105, ux, .int v2, .int v3, ux, ux] [] M 0 0 Q) (k1 : WT Mo → PW G (d + 2) 290 181 [.ref 105, ux, .int v2, ux, ux, ux] [] Mo 0 0 Q) (hW : WT M)   (hf : f_Mo_layFar_b63 rec v2 v3 M = some (yo, Mo)) : PW G (d + 2) 290 63 [.ref 105, ux, .int v2, .int v3, ux, ux] [] M 0 0 Q := by
  refine P_iload_n d_290_63 rfl ?_
  refine A_iconst d_290_64 ic_1 ?_
  refine P_aload_n d_290_65 rfl ?_
  refine A_gI d_290_66 cn_290 fk_CordLoftModel_303 k_105 hW ?_
  refine P_ishl d_290_69 ?_
  refine A_icmp_ge (tgt := 181) d_290_70 rfl hf (fun hf => ?_) (fun hf => ?_)
  · refine P_fgt [true, false, true, false, false, false] ?_
    cases hf
    exact k1 hW 
  · refine P_aload_n d_290_73 rfl ?_
    refine A_gF d_290_74 cn_290 fk_CordLoftModel_79 ft_13_57 k_105 hW ?_
    refine P_iload_n d_290_77 rfl ?_
    refine A_iald d_290_78 k_127 l_127 hW hf (fun hf => ?_)
    refine P_iload_n d_290_79 rfl ?_
    refine A_icmp_ne (tgt := 175) d_290_80 rfl hf (fun hf => ?_) (fun hf => ?_)
    · refine A_iinc d_290_175 ic_1 rfl ml_290 rfl rfl ?_
      refine P_goto (tgt := 63) d_290_178 rfl ?_
      exact hrec _ _ hW  hf
    · refine P_iload_n d_290_83 rfl ?_
      refine A_S1 d_290_84 sk_290_290 ml_250 rfl rfl hf (fun r2 M3 hc hf => t_Mo_members hW  hc (fun hW => ?_))
      refine P_aload_n d_290_87 rfl ?_
      refine A_gI d_290_88 cn_290 fk_CordLoftModel_375 k_105 hW ?_
      refine A_icmp_ge (tgt := 97) d_290_91 rfl hf (fun hf => ?_) (fun hf => ?_)
      · refine A_iconst d_290_97 ic_0 ?_
        refine A_istore d_290_98 ml_290 rfl rfl ?_
        obtain ⟨y4, M5, hl, hf⟩ := bnd_some hf
        refine t_Mo_layFar_l100 (fun hW => ?_)  fu _ _ hW  hl
        refine A_iinc d_290_175 ic_1 rfl ml_290 rfl rfl ?_
        refine P_goto (tgt := 63) d_290_178 rfl ?_
        exact hrec _ _ hW  hf
      · refine P_goto (tgt := 175) d_290_94 rfl ?_
        refine A_iinc d_290_175 ic_1 rfl ml_290 rfl rfl ?_
        refine P_goto (tgt := 63) d_290_178 rfl ?_
        exact hrec _ _ hW  hf
theorem t_Mo_layFar_l63 {G : GT} {d : Nat} {v2 : Int32} {Q : AM → Option Value → Prop} {yo : Unit} {Mo : AM} (k1 : WT Mo → PW G (d + 2) 290 181 [.ref 105, ux, .int v2, ux, ux, ux] [] Mo 0 0 Q)  : ∀ (z : Nat) (v3 : Int32) (M : AM), WT M → f_Mo_layFar_l63 v2 z v3 M = some (yo, Mo) → PW G (d + 2) 290 63 [.ref 105, ux, .int v2, .int v3, ux, ux] [] M 0 0 Q := by
  intro z
  induction z with
  | zero => intro v3 M hW hf; cases hf
  | succ z ih => intro v3 M hW hf; exact t_Mo_layFar_b63 (fun v3 M hW hf => ih v3 M hW hf) k1 hW   hf
def f_Mo_layFar_b54 (rec : Int32 → AM → Option (Unit × AM))  (v2 : Int32) (M : AM) : Option (Unit × AM) :=
  if 256 ≤ v2 then some ((), M) else bnd (f_Mo_layFar_l63 v2 fu 0 M) (fun y1 M2 => rec (v2 + 1) M2)
def f_Mo_layFar_l54  : Nat → Int32 → AM → Option (Unit × AM)
  | 0, _, _ => none
  | n + 1, v2, M => f_Mo_layFar_b54 (f_Mo_layFar_l54  n)  v2 M
set_option maxRecDepth 20000 in
theorem t_Mo_layFar_b54 {G : GT} {d : Nat}  {v2 : Int32} {M : AM} {Q : AM → Option Value → Prop} {yo : Unit} {Mo : AM} {rec : Int32 → AM → Option (Unit × AM)} (hrec : ∀ (v2 : Int32) (M : AM), WT M → rec v2 M = some (yo, Mo) → PW G (d + 2) 290 54 [.ref 105, ux, .int v2, ux, ux, ux] [] M 0 0 Q) (k1 : WT Mo → PW G (d + 2) 290 187 [ux, ux, ux, ux, ux, ux] [] Mo 0 0 Q) (hW : WT M)   (hf : f_Mo_layFar_b54 rec  v2 M = some (yo, Mo)) : PW G (d + 2) 290 54 [.ref 105, ux, .int v2, ux, ux, ux] [] M 0 0 Q := by
  refine P_iload_n d_290_54 rfl ?_
  refine P_sipush d_290_55 si_256 ?_
  refine A_icmp_ge (tgt := 187) d_290_58 rfl hf (fun hf => ?_) (fun hf => ?_)
  · refine P_fgt [false, false, false, false, false, false] ?_
    cases hf
    exact k1 hW 
  · refine A_iconst d_290_61 ic_0 ?_
    refine A_istore_n d_290_62 ml_290 rfl rfl ?_
    obtain ⟨y1, M2, hl, hf⟩ := bnd_some hf
    refine t_Mo_layFar_l63 (fun hW => ?_)  fu _ _ hW  hl
    refine A_iinc d_290_181 ic_1 rfl ml_290 rfl rfl ?_
    refine P_goto (tgt := 54) d_290_184 rfl ?_
    exact hrec _ _ hW  hf
theorem t_Mo_layFar_l54 {G : GT} {d : Nat}  {Q : AM → Option Value → Prop} {yo : Unit} {Mo : AM} (k1 : WT Mo → PW G (d + 2) 290 187 [ux, ux, ux, ux, ux, ux] [] Mo 0 0 Q)  : ∀ (z : Nat) (v2 : Int32) (M : AM), WT M → f_Mo_layFar_l54  z v2 M = some (yo, Mo) → PW G (d + 2) 290 54 [.ref 105, ux, .int v2, ux, ux, ux] [] M 0 0 Q := by
  intro z
  induction z with
  | zero => intro v2 M hW hf; cases hf
  | succ z ih => intro v2 M hW hf; exact t_Mo_layFar_b54 (fun v2 M hW hf => ih v2 M hW hf) k1 hW   hf
def f_Mo_layFar_j42 (rec : Int32 → AM → Option (Unit × AM)) (v1 : Int32) (v2 : Int32) (s0 : Nat) (s1 : Int32) (s2 : Int32) (M : AM) : Option (Unit × AM) :=
  bnd (f_Mo_truth s2 M) (fun r1 M2 => ast 256 M2 s0 s1 r1 (fun M3 => rec (v2 + 1) M3))
set_option maxRecDepth 20000 in
theorem t_Mo_layFar_j42 {G : GT} {d : Nat} {v1 : Int32} {v2 : Int32} {s0 : Nat} {s1 : Int32} {s2 : Int32} {M : AM} {Q : AM → Option Value → Prop} {yo : Unit} {Mo : AM} {rec : Int32 → AM → Option (Unit × AM)} (hrec : ∀ (v2 : Int32) (M : AM), WT M → rec v2 M = some (yo, Mo) → PW G (d + 2) 290 2 [.ref 105, .int v1, .int v2, ux, ux, ux] [] M 0 0 Q) (k1 : WT Mo → PW G (d + 2) 290 52 [.ref 105, ux, ux, ux, ux, ux] [] Mo 0 0 Q) (hW : WT M) (hs0 : kd0 s0 = 20 ∧ ln0 s0 = 256) (hf : f_Mo_layFar_j42 rec v1 v2 s0 s1 s2 M = some (yo, Mo)) : PW G (d + 2) 290 42 [.ref 105, .int v1, .int v2, ux, ux, ux] [.int s2, .int s1, .ref s0] M 0 0 Q := by
  refine A_S1 d_290_42 sk_290_283 ml_259 rfl rfl hf (fun r1 M2 hc hf => t_Mo_truth hW  hc (fun hW => ?_))
  refine A_iast d_290_45 hs0.1 hs0.2 hW hf (fun hW hf => ?_)
  refine A_iinc d_290_46 ic_1 rfl ml_290 rfl rfl ?_
  refine P_goto (tgt := 2) d_290_49 rfl ?_
  exact hrec _ _ hW  hf
def f_Mo_layFar_j26 (rec : Int32 → AM → Option (Unit × AM)) (v1 : Int32) (v2 : Int32) (s0 : Nat) (s1 : Int32) (s2 : Int32) (M : AM) : Option (Unit × AM) :=
  ast 256 M s0 s1 s2 (fun M1 => if v2 = v1 then f_Mo_layFar_j42 rec v1 v2 128 v2 1 M1 else f_Mo_layFar_j42 rec v1 v2 128 v2 0 M1)
set_option maxRecDepth 20000 in
theorem t_Mo_layFar_j26 {G : GT} {d : Nat} {v1 : Int32} {v2 : Int32} {s0 : Nat} {s1 : Int32} {s2 : Int32} {M : AM} {Q : AM → Option Value → Prop} {yo : Unit} {Mo : AM} {rec : Int32 → AM → Option (Unit × AM)} (hrec : ∀ (v2 : Int32) (M : AM), WT M → rec v2 M = some (yo, Mo) → PW G (d + 2) 290 2 [.ref 105, .int v1, .int v2, ux, ux, ux] [] M 0 0 Q) (k1 : WT Mo → PW G (d + 2) 290 52 [.ref 105, ux, ux, ux, ux, ux] [] Mo 0 0 Q) (hW : WT M) (hs0 : kd0 s0 = 20 ∧ ln0 s0 = 256) (hf : f_Mo_layFar_j26 rec v1 v2 s0 s1 s2 M = some (yo, Mo)) : PW G (d + 2) 290 26 [.ref 105, .int v1, .int v2, ux, ux, ux] [.int s2, .int s1, .ref s0] M 0 0 Q := by
  refine A_iast d_290_26 hs0.1 hs0.2 hW hf (fun hW hf => ?_)
  refine P_aload_n d_290_27 rfl ?_
  refine A_gF d_290_28 cn_290 fk_CordLoftModel_82 ft_13_58 k_105 hW ?_
  refine P_iload_n d_290_31 rfl ?_
  refine P_iload_n d_290_32 rfl ?_
  refine P_iload_n d_290_33 rfl ?_
  refine A_icmp_ne (tgt := 41) d_290_34 rfl hf (fun hf => ?_) (fun hf => ?_)
  · refine A_iconst d_290_41 ic_0 ?_
    exact t_Mo_layFar_j42 hrec k1 hW ⟨k_128, l_128⟩ hf
  · refine A_iconst d_290_37 ic_1 ?_
    refine P_goto (tgt := 42) d_290_38 rfl ?_
    exact t_Mo_layFar_j42 hrec k1 hW ⟨k_128, l_128⟩ hf
def f_Mo_layFar_b2 (rec : Int32 → AM → Option (Unit × AM)) (v1 : Int32) (v2 : Int32) (M : AM) : Option (Unit × AM) :=
  if 256 ≤ v2 then some ((), M) else if v2 = v1 then f_Mo_layFar_j26 rec v1 v2 127 v2 0 M else f_Mo_layFar_j26 rec v1 v2 127 v2 1000000 M
def f_Mo_layFar_l2 (v1 : Int32) : Nat → Int32 → AM → Option (Unit × AM)
  | 0, _, _ => none
  | n + 1, v2, M => f_Mo_layFar_b2 (f_Mo_layFar_l2 v1 n) v1 v2 M
set_option maxRecDepth 20000 in
theorem t_Mo_layFar_b2 {G : GT} {d : Nat} {v1 : Int32} {v2 : Int32} {M : AM} {Q : AM → Option Value → Prop} {yo : Unit} {Mo : AM} {rec : Int32 → AM → Option (Unit × AM)} (hrec : ∀ (v2 : Int32) (M : AM), WT M → rec v2 M = some (yo, Mo) → PW G (d + 2) 290 2 [.ref 105, .int v1, .int v2, ux, ux, ux] [] M 0 0 Q) (k1 : WT Mo → PW G (d + 2) 290 52 [.ref 105, ux, ux, ux, ux, ux] [] Mo 0 0 Q) (hW : WT M)   (hf : f_Mo_layFar_b2 rec v1 v2 M = some (yo, Mo)) : PW G (d + 2) 290 2 [.ref 105, .int v1, .int v2, ux, ux, ux] [] M 0 0 Q := by
  refine P_iload_n d_290_2 rfl ?_
  refine P_sipush d_290_3 si_256 ?_
  refine A_icmp_ge (tgt := 52) d_290_6 rfl hf (fun hf => ?_) (fun hf => ?_)
  · refine P_fgt [true, false, false, false, false, false] ?_
    cases hf
    exact k1 hW 
  · refine P_aload_n d_290_9 rfl ?_
    refine A_gF d_290_10 cn_290 fk_CordLoftModel_79 ft_13_57 k_105 hW ?_
    refine P_iload_n d_290_13 rfl ?_
    refine P_iload_n d_290_14 rfl ?_
    refine P_iload_n d_290_15 rfl ?_
    refine A_icmp_ne (tgt := 23) d_290_16 rfl hf (fun hf => ?_) (fun hf => ?_)
    · refine A_ldcw d_290_23 cn_290 cw_CordLoftModel_466 ?_
      exact t_Mo_layFar_j26 hrec k1 hW ⟨k_127, l_127⟩ hf
    · refine A_iconst d_290_19 ic_0 ?_
      refine P_goto (tgt := 26) d_290_20 rfl ?_
      exact t_Mo_layFar_j26 hrec k1 hW ⟨k_127, l_127⟩ hf
theorem t_Mo_layFar_l2 {G : GT} {d : Nat} {v1 : Int32} {Q : AM → Option Value → Prop} {yo : Unit} {Mo : AM} (k1 : WT Mo → PW G (d + 2) 290 52 [.ref 105, ux, ux, ux, ux, ux] [] Mo 0 0 Q)  : ∀ (z : Nat) (v2 : Int32) (M : AM), WT M → f_Mo_layFar_l2 v1 z v2 M = some (yo, Mo) → PW G (d + 2) 290 2 [.ref 105, .int v1, .int v2, ux, ux, ux] [] M 0 0 Q := by
  intro z
  induction z with
  | zero => intro v2 M hW hf; cases hf
  | succ z ih => intro v2 M hW hf; exact t_Mo_layFar_b2 (fun v2 M hW hf => ih v2 M hW hf) k1 hW   hf
def f_Mo_layFar (a1 : Int32) (M : AM) : Option (Unit × AM) :=
  bnd (f_Mo_layFar_l2 a1 fu 0 M) (fun y1 M2 => bnd (f_Mo_layFar_l54  fu 0 M2) (fun y3 M4 => some ((), M4)))
set_option maxRecDepth 20000 in
theorem t_Mo_layFar {G : GT} {d : Nat} {a1 : Int32} {M : AM} {Q : AM → Option Value → Prop} {r : Unit} {M' : AM} (hW : WT M)  (hf : f_Mo_layFar a1 M = some (r, M')) (k : WT M' → Q M' none)  : Cal G (d + 2) 290 [.ref 105, .int a1] M Q := by
  refine A_enter ml_290 rfl ?_
  refine A_iconst d_290_0 ic_0 ?_
  refine A_istore_n d_290_1 ml_290 rfl rfl ?_
  obtain ⟨y1, M2, hl, hf⟩ := bnd_some hf
  refine t_Mo_layFar_l2 (fun hW => ?_)  fu _ _ hW  hl
  refine A_iconst d_290_52 ic_0 ?_
  refine A_istore_n d_290_53 ml_290 rfl rfl ?_
  obtain ⟨y3, M4, hl, hf⟩ := bnd_some hf
  refine t_Mo_layFar_l54 (fun hW => ?_)  fu _ _ hW  hl
  exact A_ret d_290_187 mr_290 hW hf k
end
