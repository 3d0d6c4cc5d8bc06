noncomputable section
noncomputable def fu : Nat := Classical.choose (⟨1000000, rfl⟩ : ∃ n : Nat, n = 1000000)
theorem fu_eq : fu = 1000000 := Classical.choose_spec (⟨1000000, rfl⟩ : ∃ n : Nat, n = 1000000)
theorem bn2_some {α β : Type} {x : Option ((α × AM) ⊕ (β × AM))} {κ : α → AM → Option (β × AM)} {p : β × AM} (h : bn2 x κ = some p) : ∃ o, x = some o ∧ bn2 (some o) κ = some p := by
  cases x with
  | none => cases h
  | some o => exact ⟨o, rfl, h⟩
def bn3 {α β γ : Type} (x : Option ((α × AM) ⊕ (β × AM))) (κ : α → AM → Option ((γ × AM) ⊕ (β × AM))) : Option ((γ × AM) ⊕ (β × AM)) := match x with
  | none => none
  | some (.inl (a, M)) => κ a M
  | some (.inr o) => some (.inr o)
theorem bn3_some {α β γ : Type} {x : Option ((α × AM) ⊕ (β × AM))} {κ : α → AM → Option ((γ × AM) ⊕ (β × AM))} {p : (γ × AM) ⊕ (β × AM)} (h : bn3 x κ = some p) : ∃ o, x = some o ∧ bn3 (some o) κ = some p := by
  cases x with
  | none => cases h
  | some o => exact ⟨o, rfl, h⟩
def f_Tokens_step  (M : AM) : Option (Unit × AM) :=
  if (gI M 3 3) ≤ ((gI M 3 4) + 1) then some ((), M) else wI M 3 4 ((gI M 3 4) + 1) (fun M1 => ald 1601 M1 4 (gI M1 3 4) (fun x2 => wI M1 3 6 x2 (fun M3 => ald 1601 M3 5 (gI M3 3 4) (fun x4 => wI M3 3 7 x4 (fun M5 => lald 1601 M5 6 (gI M5 3 4) (fun x6 => wL M5 3 8 x6 (fun M7 => some ((), M7))))))))
set_option maxRecDepth 20000 in
theorem t_Tokens_step {G : GT} {d : Nat}  {M : AM} {Q : AM → Option Value → Prop} {r : Unit} {M' : AM} (hW : WT M)  (hf : f_Tokens_step  M = some (r, M')) (k : WT M' → Q M' none)  : Cal G d 54 [.ref 3] M Q := by
  refine A_enter ml_54 rfl ?_
  refine P_aload_n d_54_0 rfl ?_
  refine A_gI d_54_1 cn_54 fk_CordLoft_Tokens_39 k_3 hW ?_
  refine A_iconst d_54_4 ic_1 ?_
  refine P_iadd d_54_5 ?_
  refine P_aload_n d_54_6 rfl ?_
  refine A_gI d_54_7 cn_54 fk_CordLoft_Tokens_24 k_3 hW ?_
  refine A_icmp_ge (tgt := 62) d_54_10 rfl hf (fun hf => ?_) (fun hf => ?_)
  · exact A_ret d_54_62 mr_54 hW hf k
  · refine P_aload_n d_54_13 rfl ?_
    refine P_dup d_54_14 rfl ?_
    refine A_gI d_54_15 cn_54 fk_CordLoft_Tokens_39 k_3 hW ?_
    refine A_iconst d_54_18 ic_1 ?_
    refine P_iadd d_54_19 ?_
    refine A_pI d_54_20 cn_54 fp_CordLoft_Tokens_39 k_3 hW hf (fun hW hf => ?_)
    refine P_aload_n d_54_23 rfl ?_
    refine P_aload_n d_54_24 rfl ?_
    refine A_gF d_54_25 cn_54 fk_CordLoft_Tokens_11 ft_11_0 k_3 hW ?_
    refine P_aload_n d_54_28 rfl ?_
    refine A_gI d_54_29 cn_54 fk_CordLoft_Tokens_39 k_3 hW ?_
    refine A_iald d_54_32 k_4 l_4 hW hf (fun hf => ?_)
    refine A_pI d_54_33 cn_54 fp_CordLoft_Tokens_45 k_3 hW hf (fun hW hf => ?_)
    refine P_aload_n d_54_36 rfl ?_
    refine P_aload_n d_54_37 rfl ?_
    refine A_gF d_54_38 cn_54 fk_CordLoft_Tokens_17 ft_11_1 k_3 hW ?_
    refine P_aload_n d_54_41 rfl ?_
    refine A_gI d_54_42 cn_54 fk_CordLoft_Tokens_39 k_3 hW ?_
    refine A_iald d_54_45 k_5 l_5 hW hf (fun hf => ?_)
    refine A_pI d_54_46 cn_54 fp_CordLoft_Tokens_48 k_3 hW hf (fun hW hf => ?_)
    refine P_aload_n d_54_49 rfl ?_
    refine P_aload_n d_54_50 rfl ?_
    refine A_gF d_54_51 cn_54 fk_CordLoft_Tokens_20 ft_11_2 k_3 hW ?_
    refine P_aload_n d_54_54 rfl ?_
    refine A_gI d_54_55 cn_54 fk_CordLoft_Tokens_39 k_3 hW ?_
    refine A_lald d_54_58 k_6 l_6 hW hf (fun hf => ?_)
    refine A_pL d_54_59 cn_54 fp_CordLoft_Tokens_51 k_3 hW hf (fun hW hf => ?_)
    exact A_ret d_54_62 mr_54 hW hf k
def f_Reader_refuse_j17 (s1 : Int32) (M : AM) : Option (Int32 × AM) :=
  wI M 7 4 s1 (fun M1 => wI M1 7 5 (gI M1 3 7) (fun M2 => some (0, M2)))
set_option maxRecDepth 20000 in
theorem t_Reader_refuse_j17 {G : GT} {d : Nat} {s1 : Int32} {M : AM} {Q : AM → Option Value → Prop} {r : Int32} {M' : AM} (k : WT M' → (r = 0 ∨ r = 1) → Q M' (some (.int r))) (hW : WT M)  (hf : f_Reader_refuse_j17 s1 M = some (r, M')) : PW G d 60 17 [.ref 7, ux] [.int s1, .ref 7] M 0 0 Q := by
  refine A_pI d_60_17 cn_60 fp_CordLoft_Reader_28 k_7 hW hf (fun hW hf => ?_)
  refine P_aload_n d_60_20 rfl ?_
  refine P_aload_n d_60_21 rfl ?_
  refine A_gF d_60_22 cn_60 fk_CordLoft_Reader_9 ft_6_0 k_7 hW ?_
  refine A_gI d_60_25 cn_60 fk_CordLoft_Reader_159 k_3 hW ?_
  refine A_pI d_60_28 cn_60 fp_CordLoft_Reader_31 k_7 hW hf (fun hW hf => ?_)
  refine A_iconst d_60_31 ic_0 ?_
  exact A_zret d_60_32 mr_60 hW (Or.inl rfl) hf k
def f_Reader_refuse (a1 : Int32) (M : AM) : Option (Int32 × AM) :=
  if (gI M 3 6) = 1 then f_Reader_refuse_j17 1 M else f_Reader_refuse_j17 a1 M
set_option maxRecDepth 20000 in
theorem t_Reader_refuse {G : GT} {d : Nat} {a1 : Int32} {M : AM} {Q : AM → Option Value → Prop} {r : Int32} {M' : AM} (hW : WT M)  (hf : f_Reader_refuse a1 M = some (r, M')) (k : WT M' → (r = 0 ∨ r = 1) → Q M' (some (.int r)))  : Cal G d 60 [.ref 7, .int a1] M Q := by
  refine A_enter ml_60 rfl ?_
  refine P_aload_n d_60_0 rfl ?_
  refine P_aload_n d_60_1 rfl ?_
  refine A_gF d_60_2 cn_60 fk_CordLoft_Reader_9 ft_6_0 k_7 hW ?_
  refine A_gI d_60_5 cn_60 fk_CordLoft_Reader_36 k_3 hW ?_
  refine A_iconst d_60_8 ic_1 ?_
  refine A_icmp_ne (tgt := 16) d_60_9 rfl hf (fun hf => ?_) (fun hf => ?_)
  · refine P_iload_n d_60_16 rfl ?_
    refine P_fgt [true, false] ?_
    exact t_Reader_refuse_j17 k hW  hf
  · refine A_iconst d_60_12 ic_1 ?_
    refine P_goto (tgt := 17) d_60_13 rfl ?_
    refine P_fgt [true, false] ?_
    exact t_Reader_refuse_j17 k hW  hf
def f_Reader_expect (a1 : Int32) (M : AM) : Option (Int32 × AM) :=
  if (gI M 3 6) = a1 then bnd (f_Tokens_step  M) (fun r1 M2 => some (1, M2)) else bnd (f_Reader_refuse 2 M) (fun r3 M4 => some (r3, M4))
set_option maxRecDepth 20000 in
theorem t_Reader_expect {G : GT} {d : Nat} {a1 : Int32} {M : AM} {Q : AM → Option Value → Prop} {r : Int32} {M' : AM} (hW : WT M)  (hf : f_Reader_expect a1 M = some (r, M')) (k : WT M' → (r = 0 ∨ r = 1) → Q M' (some (.int r)))  : Cal G (d + 1) 67 [.ref 7, .int a1] M Q := by
  refine A_enter ml_67 rfl ?_
  refine P_aload_n d_67_0 rfl ?_
  refine A_gF d_67_1 cn_67 fk_CordLoft_Reader_9 ft_6_0 k_7 hW ?_
  refine A_gI d_67_4 cn_67 fk_CordLoft_Reader_36 k_3 hW ?_
  refine P_iload_n d_67_7 rfl ?_
  refine A_icmp_eq (tgt := 17) d_67_8 rfl hf (fun hf => ?_) (fun hf => ?_)
  · refine P_aload_n d_67_17 rfl ?_
    refine A_gF d_67_18 cn_67 fk_CordLoft_Reader_9 ft_6_0 k_7 hW ?_
    refine A_V0 d_67_21 vk_67_89 ml_54 rfl k_3 hW rfl hf (fun r1 M2 hc hf => t_Tokens_step hW  hc (fun hW => ?_))
    refine A_iconst d_67_24 ic_1 ?_
    exact A_zret d_67_25 mr_67 hW (Or.inr rfl) hf k
  · refine P_aload_n d_67_11 rfl ?_
    refine A_iconst d_67_12 ic_2 ?_
    refine A_V1 d_67_13 vk_67_80 ml_60 rfl k_7 hW rfl hf (fun r3 M4 hc hf => t_Reader_refuse hW  hc (fun hW hb4 => ?_))
    exact A_zret d_67_16 mr_67 hW hb4 hf k
def f_Form_put (a0 : Nat) (a1 : Int32) (M : AM) : Option (Unit × AM) :=
  if 270 ≤ (gI M a0 1) then some ((), M) else ast 270 M (a0 + 1) (gI M a0 1) a1 (fun M1 => wI M1 a0 1 ((gI M1 a0 1) + 1) (fun M2 => some ((), M2)))
set_option maxRecDepth 20000 in
theorem t_Form_put {G : GT} {d : Nat} {a0 : Nat} {a1 : Int32} {M : AM} {Q : AM → Option Value → Prop} {r : Unit} {M' : AM} (hW : WT M) (ha0 : kd0 a0 = 3) (hf : f_Form_put a0 a1 M = some (r, M')) (k : WT M' → Q M' none)  : Cal G d 74 [.ref a0, .int a1] M Q := by
  refine A_enter ml_74 rfl ?_
  refine P_aload_n d_74_0 rfl ?_
  refine A_gI d_74_1 cn_74 fk_CordLoft_Formula_19 ha0 hW ?_
  refine P_sipush d_74_4 si_270 ?_
  refine A_icmp_ge (tgt := 30) d_74_7 rfl hf (fun hf => ?_) (fun hf => ?_)
  · exact A_ret d_74_30 mr_74 hW hf k
  · refine P_aload_n d_74_10 rfl ?_
    refine A_gFr d_74_11 cn_74 fk_CordLoft_Formula_9 ft_3_0 ha0 hW ?_
    refine P_aload_n d_74_14 rfl ?_
    refine A_gI d_74_15 cn_74 fk_CordLoft_Formula_19 ha0 hW ?_
    refine P_iload_n d_74_18 rfl ?_
    refine A_iast d_74_19 (kr_3_1 ha0) (lr_3_1 ha0) hW hf (fun hW hf => ?_)
    refine P_aload_n d_74_20 rfl ?_
    refine P_dup d_74_21 rfl ?_
    refine A_gI d_74_22 cn_74 fk_CordLoft_Formula_19 ha0 hW ?_
    refine A_iconst d_74_25 ic_1 ?_
    refine P_iadd d_74_26 ?_
    refine A_pI d_74_27 cn_74 fp_CordLoft_Formula_19 ha0 hW hf (fun hW hf => ?_)
    exact A_ret d_74_30 mr_74 hW hf k
def f_Reader_levelOf (a0 : Int32) (M : AM) : Option (Int32 × AM) :=
  swi a0 [(37, some (4, M)), (42, some (4, M)), (43, some (3, M)), (45, some (3, M)), (47, some (4, M)), (137, some (0, M)), (138, some (1, M))] (some ((-1), M))
set_option maxRecDepth 20000 in
theorem t_Reader_levelOf {G : GT} {d : Nat} {a0 : Int32} {M : AM} {Q : AM → Option Value → Prop} {r : Int32} {M' : AM} (hW : WT M)  (hf : f_Reader_levelOf a0 M = some (r, M')) (k : WT M' → Q M' (some (.int r)))  : Cal G d 76 [.int a0] M Q := by
  refine A_enter ml_76 rfl ?_
  refine P_iload_n d_76_0 rfl ?_
  refine A_lsw [37, 42, 43, 45, 47, 137, 138] [74, 74, 72, 72, 74, 68, 70] 76 d_76_1 rfl (by decide +kernel) hf (fun i A t h1 h2 hf => ?_) (fun hf => ?_)
  · match i, h1, h2 with
    | 0, h1, h2 =>
      have h3 := (Prod.mk.inj (Option.some.inj h1)).2
      have h4 := Option.some.inj h2
      subst h3; subst h4; clear h1 h2
      refine A_iconst d_76_74 ic_4 ?_
      exact A_iret d_76_75 mr_76 hW hf k
    | 1, h1, h2 =>
      have h3 := (Prod.mk.inj (Option.some.inj h1)).2
      have h4 := Option.some.inj h2
      subst h3; subst h4; clear h1 h2
      refine A_iconst d_76_74 ic_4 ?_
      exact A_iret d_76_75 mr_76 hW hf k
    | 2, h1, h2 =>
      have h3 := (Prod.mk.inj (Option.some.inj h1)).2
      have h4 := Option.some.inj h2
      subst h3; subst h4; clear h1 h2
      refine A_iconst d_76_72 ic_3 ?_
      exact A_iret d_76_73 mr_76 hW hf k
    | 3, h1, h2 =>
      have h3 := (Prod.mk.inj (Option.some.inj h1)).2
      have h4 := Option.some.inj h2
      subst h3; subst h4; clear h1 h2
      refine A_iconst d_76_72 ic_3 ?_
      exact A_iret d_76_73 mr_76 hW hf k
    | 4, h1, h2 =>
      have h3 := (Prod.mk.inj (Option.some.inj h1)).2
      have h4 := Option.some.inj h2
      subst h3; subst h4; clear h1 h2
      refine A_iconst d_76_74 ic_4 ?_
      exact A_iret d_76_75 mr_76 hW hf k
    | 5, h1, h2 =>
      have h3 := (Prod.mk.inj (Option.some.inj h1)).2
      have h4 := Option.some.inj h2
      subst h3; subst h4; clear h1 h2
      refine A_iconst d_76_68 ic_0 ?_
      exact A_iret d_76_69 mr_76 hW hf k
    | 6, h1, h2 =>
      have h3 := (Prod.mk.inj (Option.some.inj h1)).2
      have h4 := Option.some.inj h2
      subst h3; subst h4; clear h1 h2
      refine A_iconst d_76_70 ic_1 ?_
      exact A_iret d_76_71 mr_76 hW hf k
    | i + 7, h1, h2 => exact absurd h2 (by simp)
  · refine A_iconst d_76_76 ic_m1 ?_
    exact A_iret d_76_77 mr_76 hW hf k
def f_Reader_readJoined_b37 (gr : Nat → Int32 → Int32 → AM → Option (Int32 × AM)) (rec : Int32 → AM → Option ((Unit × AM) ⊕ (Int32 × AM))) (v1 : Int32) (v2 : Int32) (v3 : Int32) (M : AM) : Option ((Unit × AM) ⊕ (Int32 × AM)) :=
  if 30 ≤ v3 then some (.inl ((), M)) else bnd (f_Reader_levelOf (gI M 3 6) M) (fun r1 M2 => if r1 = v1 then bnd (f_Tokens_step  M2) (fun r3 M4 => bnd (gr 0 (v1 + 1) v2 M4) (fun r5 M6 => if r5 = 0 then some (.inr (0, M6)) else ckK (gR M6 7 1) 5 (bnd (f_Form_put ((gR M6 7 1) + 9) (-(gI M2 3 6)) M6) (fun r8 M9 => rec (v3 + 1) M9)))) else some (.inl ((), M2)))
def f_Reader_readJoined_l37 (gr : Nat → Int32 → Int32 → AM → Option (Int32 × AM)) (v1 : Int32) (v2 : Int32) : Nat → Int32 → AM → Option ((Unit × AM) ⊕ (Int32 × AM))
  | 0, _, _ => none
  | n + 1, v3, M => f_Reader_readJoined_b37 gr (f_Reader_readJoined_l37 gr v1 v2 n) v1 v2 v3 M
set_option maxRecDepth 20000 in
theorem t_Reader_readJoined_b37 {G : GT} {d : Nat} {gr : Nat → Int32 → Int32 → AM → Option (Int32 × AM)} {v1 : Int32} {v2 : Int32} {v3 : Int32} {M : AM} {Q : AM → Option Value → Prop} {o : (Unit × AM) ⊕ (Int32 × AM)} {rec : Int32 → AM → Option ((Unit × AM) ⊕ (Int32 × AM))} (hg0 : ∀ (a b : Int32) (M : AM) (r : Int32) (M' : AM) (Q : AM → Option Value → Prop), WT M → gr 0 a b M = some (r, M') → (WT M' → (r = 0 ∨ r = 1) → Q M' (some (.int r))) → Cal G (d + 4) 72 [.ref 7, .int a, .int b] M Q) (hg1 : ∀ (a b : Int32) (M : AM) (r : Int32) (M' : AM) (Q : AM → Option Value → Prop), WT M → gr 1 a b M = some (r, M') → (WT M' → (r = 0 ∨ r = 1) → Q M' (some (.int r))) → Cal G (d + 4) 73 [.ref 7, .int a] M Q) (hg2 : ∀ (a b : Int32) (M : AM) (r : Int32) (M' : AM) (Q : AM → Option Value → Prop), WT M → gr 2 a b M = some (r, M') → (WT M' → (r = 0 ∨ r = 1) → Q M' (some (.int r))) → Cal G (d + 4) 75 [.ref 7, .int a] M Q) (hrec : ∀ (v3 : Int32) (M : AM), WT M → rec v3 M = some o → PW G (d + 5) 72 37 [.ref 7, .int v1, .int v2, .int v3, ux] [] M 0 0 Q) (k1 : ∀ (yo : Unit) (Mo : AM), o = .inl (yo, Mo) → WT Mo → PW G (d + 5) 72 105 [ux, ux, ux, ux, ux] [] Mo 0 0 Q) (k2 : ∀ (r : Int32) (M' : AM), o = .inr (r, M') → WT M' → (r = 0 ∨ r = 1) → Q M' (some (.int r))) (hW : WT M)   (hf : f_Reader_readJoined_b37 gr rec v1 v2 v3 M = some o) : PW G (d + 5) 72 37 [.ref 7, .int v1, .int v2, .int v3, ux] [] M 0 0 Q := by
  refine P_iload_n d_72_37 rfl ?_
  refine P_bipush d_72_38 bi_30 ?_
  refine A_icmp_ge (tgt := 105) d_72_40 rfl hf (fun hf => ?_) (fun hf => ?_)
  · refine P_fgt [false, false, false, false, false] ?_
    cases hf
    exact k1 _ _ rfl hW 
  · refine P_aload_n d_72_43 rfl ?_
    refine A_gF d_72_44 cn_72 fk_CordLoft_Reader_9 ft_6_0 k_7 hW ?_
    refine A_gI d_72_47 cn_72 fk_CordLoft_Reader_36 k_3 hW ?_
    refine A_S1 d_72_50 sk_72_144 ml_76 rfl rfl hf (fun r1 M2 hc hf => t_Reader_levelOf hW  hc (fun hW => ?_))
    refine P_iload_n d_72_53 rfl ?_
    refine A_icmp_ne (tgt := 105) d_72_54 rfl hf (fun hf => ?_) (fun hf => ?_)
    · refine P_fgt [false, false, false, false, false] ?_
      cases hf
      exact k1 _ _ rfl hW 
    · refine P_aload_n d_72_57 rfl ?_
      refine A_gF d_72_58 cn_72 fk_CordLoft_Reader_9 ft_6_0 k_7 hW ?_
      refine A_gI d_72_61 cn_72 fk_CordLoft_Reader_36 k_3 hW ?_
      refine A_istore d_72_64 ml_72 rfl rfl ?_
      refine P_aload_n d_72_66 rfl ?_
      refine A_gF d_72_67 cn_72 fk_CordLoft_Reader_9 ft_6_0 k_7 hW ?_
      refine A_V0 d_72_70 vk_72_89 ml_54 rfl k_3 hW rfl hf (fun r3 M4 hc hf => t_Tokens_step hW  hc (fun hW => ?_))
      refine P_aload_n d_72_73 rfl ?_
      refine P_iload_n d_72_74 rfl ?_
      refine A_iconst d_72_75 ic_1 ?_
      refine P_iadd d_72_76 ?_
      refine P_iload_n d_72_77 rfl ?_
      refine A_V2 d_72_78 vk_72_60 ml_72 rfl k_7 hW rfl hf (fun r5 M6 hc hf => hg0 _ _ _ _ _ _ hW hc (fun hW hb6 => ?_))
      refine A_if_ne (tgt := 86) d_72_81 rfl hf (fun hf => ?_) (fun hf => ?_)
      · refine P_aload_n d_72_86 rfl ?_
        refine A_gM d_72_87 cn_72 fk_CordLoft_Reader_15 k_7 hW hf (fun hk7 hf => ?_)
        refine A_gFr d_72_90 cn_72 fk_CordLoft_Reader_148 ft_5_11 hk7 hW ?_
        refine P_iload d_72_93 rfl ?_
        refine P_ineg d_72_95 ?_
        refine A_V1 d_72_96 vk_72_152 ml_74 rfl (kr_5_9 hk7) hW rfl hf (fun r8 M9 hc hf => t_Form_put hW (kr_5_9 hk7) hc (fun hW => ?_))
        refine A_iinc d_72_99 ic_1 rfl ml_72 rfl rfl ?_
        refine P_goto (tgt := 37) d_72_102 rfl ?_
        refine P_fgt [true, true, true, true, false] ?_
        exact hrec _ _ hW  hf
      · refine A_iconst d_72_84 ic_0 ?_
        cases hf
        exact A_zret d_72_85 mr_72 hW (Or.inl rfl) rfl (fun hW hb => k2 _ _ rfl hW hb)
theorem t_Reader_readJoined_l37 {G : GT} {d : Nat} {gr : Nat → Int32 → Int32 → AM → Option (Int32 × AM)} {v1 : Int32} {v2 : Int32} {Q : AM → Option Value → Prop} {o : (Unit × AM) ⊕ (Int32 × AM)} (hg0 : ∀ (a b : Int32) (M : AM) (r : Int32) (M' : AM) (Q : AM → Option Value → Prop), WT M → gr 0 a b M = some (r, M') → (WT M' → (r = 0 ∨ r = 1) → Q M' (some (.int r))) → Cal G (d + 4) 72 [.ref 7, .int a, .int b] M Q) (hg1 : ∀ (a b : Int32) (M : AM) (r : Int32) (M' : AM) (Q : AM → Option Value → Prop), WT M → gr 1 a b M = some (r, M') → (WT M' → (r = 0 ∨ r = 1) → Q M' (some (.int r))) → Cal G (d + 4) 73 [.ref 7, .int a] M Q) (hg2 : ∀ (a b : Int32) (M : AM) (r : Int32) (M' : AM) (Q : AM → Option Value → Prop), WT M → gr 2 a b M = some (r, M') → (WT M' → (r = 0 ∨ r = 1) → Q M' (some (.int r))) → Cal G (d + 4) 75 [.ref 7, .int a] M Q) (k1 : ∀ (yo : Unit) (Mo : AM), o = .inl (yo, Mo) → WT Mo → PW G (d + 5) 72 105 [ux, ux, ux, ux, ux] [] Mo 0 0 Q) (k2 : ∀ (r : Int32) (M' : AM), o = .inr (r, M') → WT M' → (r = 0 ∨ r = 1) → Q M' (some (.int r)))  : ∀ (z : Nat) (v3 : Int32) (M : AM), WT M → f_Reader_readJoined_l37 gr v1 v2 z v3 M = some o → PW G (d + 5) 72 37 [.ref 7, .int v1, .int v2, .int v3, ux] [] M 0 0 Q := by
  intro z
  induction z with
  | zero => intro v3 M hW hf; cases hf
  | succ z ih => intro v3 M hW hf; exact t_Reader_readJoined_b37 hg0 hg1 hg2 (fun v3 M hW hf => ih v3 M hW hf) k1 k2 hW   hf
def f_Reader_readJoined_B (gr : Nat → Int32 → Int32 → AM → Option (Int32 × AM)) (a1 : Int32) (a2 : Int32) (M : AM) : Option (Int32 × AM) :=
  if a1 = 2 then bnd (gr 1 a2 0 M) (fun r7 M8 => some (r7, M8)) else if a1 < 5 then bnd (gr 0 (a1 + 1) a2 M) (fun r1 M2 => if r1 = 0 then some (0, M2) else bn2 (f_Reader_readJoined_l37 gr a1 a2 fu 0 M2) (fun y3 M4 => some (1, M4))) else bnd (gr 2 a2 0 M) (fun r5 M6 => some (r5, M6))
set_option maxRecDepth 20000 in
theorem t_Reader_readJoined_B {G : GT} {d : Nat} {gr : Nat → Int32 → Int32 → AM → Option (Int32 × AM)} {a1 : Int32} {a2 : Int32} {M : AM} {Q : AM → Option Value → Prop} {r : Int32} {M' : AM} (hg0 : ∀ (a b : Int32) (M : AM) (r : Int32) (M' : AM) (Q : AM → Option Value → Prop), WT M → gr 0 a b M = some (r, M') → (WT M' → (r = 0 ∨ r = 1) → Q M' (some (.int r))) → Cal G (d + 4) 72 [.ref 7, .int a, .int b] M Q) (hg1 : ∀ (a b : Int32) (M : AM) (r : Int32) (M' : AM) (Q : AM → Option Value → Prop), WT M → gr 1 a b M = some (r, M') → (WT M' → (r = 0 ∨ r = 1) → Q M' (some (.int r))) → Cal G (d + 4) 73 [.ref 7, .int a] M Q) (hg2 : ∀ (a b : Int32) (M : AM) (r : Int32) (M' : AM) (Q : AM → Option Value → Prop), WT M → gr 2 a b M = some (r, M') → (WT M' → (r = 0 ∨ r = 1) → Q M' (some (.int r))) → Cal G (d + 4) 75 [.ref 7, .int a] M Q) (hW : WT M)  (hf : f_Reader_readJoined_B gr a1 a2 M = some (r, M')) (k : WT M' → (r = 0 ∨ r = 1) → Q M' (some (.int r)))  : Cal G (d + 5) 72 [.ref 7, .int a1, .int a2] M Q := by
  refine A_enter ml_72 rfl ?_
  refine P_iload_n d_72_0 rfl ?_
  refine A_iconst d_72_1 ic_2 ?_
  refine A_icmp_ne (tgt := 11) d_72_2 rfl hf (fun hf => ?_) (fun hf => ?_)
  · refine P_iload_n d_72_11 rfl ?_
    refine A_iconst d_72_12 ic_5 ?_
    refine A_icmp_lt (tgt := 22) d_72_13 rfl hf (fun hf => ?_) (fun hf => ?_)
    · refine P_aload_n d_72_22 rfl ?_
      refine P_iload_n d_72_23 rfl ?_
      refine A_iconst d_72_24 ic_1 ?_
      refine P_iadd d_72_25 ?_
      refine P_iload_n d_72_26 rfl ?_
      refine A_V2 d_72_27 vk_72_60 ml_72 rfl k_7 hW rfl hf (fun r1 M2 hc hf => hg0 _ _ _ _ _ _ hW hc (fun hW hb2 => ?_))
      refine A_if_ne (tgt := 35) d_72_30 rfl hf (fun hf => ?_) (fun hf => ?_)
      · refine A_iconst d_72_35 ic_0 ?_
        refine A_istore_n d_72_36 ml_72 rfl rfl ?_
        obtain ⟨o, hl, hf⟩ := bn2_some hf
        refine t_Reader_readJoined_l37 hg0 hg1 hg2 (o := o) (fun y3 M4 e hW => ?_) (fun r1 Mr e hW hb => ?_)  fu _ _ hW  hl
        · subst e
          change _ = some (r, M') at hf
          refine A_iconst d_72_105 ic_1 ?_
          exact A_zret d_72_106 mr_72 hW (Or.inr rfl) hf k
        · subst e; cases hf; exact k hW hb
      · refine A_iconst d_72_33 ic_0 ?_
        exact A_zret d_72_34 mr_72 hW (Or.inl rfl) hf k
    · refine P_aload_n d_72_16 rfl ?_
      refine P_iload_n d_72_17 rfl ?_
      refine A_V1 d_72_18 vk_72_139 ml_75 rfl k_7 hW rfl hf (fun r5 M6 hc hf => hg2 _ _ _ _ _ _ hW hc (fun hW hb6 => ?_))
      exact A_zret d_72_21 mr_72 hW hb6 hf k
  · refine P_aload_n d_72_5 rfl ?_
    refine P_iload_n d_72_6 rfl ?_
    refine A_V1 d_72_7 vk_72_136 ml_73 rfl k_7 hW rfl hf (fun r7 M8 hc hf => hg1 _ _ _ _ _ _ hW hc (fun hW hb8 => ?_))
    exact A_zret d_72_10 mr_72 hW hb8 hf k
def f_Reader_readOne_j98 (gr : Nat → Int32 → Int32 → AM → Option (Int32 × AM)) (v1 : Int32) (v2 : Int32) (M : AM) : Option (Int32 × AM) :=
  bnd (f_Tokens_step  M) (fun r1 M2 => bnd (gr 0 3 v1 M2) (fun r3 M4 => if r3 = 0 then some (0, M4) else ckK (gR M4 7 1) 5 (bnd (f_Form_put ((gR M4 7 1) + 9) (-v2) M4) (fun r6 M7 => some (1, M7)))))
set_option maxRecDepth 20000 in
theorem t_Reader_readOne_j98 {G : GT} {d : Nat} {gr : Nat → Int32 → Int32 → AM → Option (Int32 × AM)} {v1 : Int32} {v2 : Int32} {M : AM} {Q : AM → Option Value → Prop} {r : Int32} {M' : AM} (hg0 : ∀ (a b : Int32) (M : AM) (r : Int32) (M' : AM) (Q : AM → Option Value → Prop), WT M → gr 0 a b M = some (r, M') → (WT M' → (r = 0 ∨ r = 1) → Q M' (some (.int r))) → Cal G (d + 4) 72 [.ref 7, .int a, .int b] M Q) (hg1 : ∀ (a b : Int32) (M : AM) (r : Int32) (M' : AM) (Q : AM → Option Value → Prop), WT M → gr 1 a b M = some (r, M') → (WT M' → (r = 0 ∨ r = 1) → Q M' (some (.int r))) → Cal G (d + 4) 73 [.ref 7, .int a] M Q) (hg2 : ∀ (a b : Int32) (M : AM) (r : Int32) (M' : AM) (Q : AM → Option Value → Prop), WT M → gr 2 a b M = some (r, M') → (WT M' → (r = 0 ∨ r = 1) → Q M' (some (.int r))) → Cal G (d + 4) 75 [.ref 7, .int a] M Q) (k : WT M' → (r = 0 ∨ r = 1) → Q M' (some (.int r))) (hW : WT M)  (hf : f_Reader_readOne_j98 gr v1 v2 M = some (r, M')) : PW G (d + 5) 73 98 [.ref 7, .int v1, .int v2] [] M 0 0 Q := by
  refine P_aload_n d_73_98 rfl ?_
  refine A_gF d_73_99 cn_73 fk_CordLoft_Reader_9 ft_6_0 k_7 hW ?_
  refine A_V0 d_73_102 vk_73_89 ml_54 rfl k_3 hW rfl hf (fun r1 M2 hc hf => t_Tokens_step hW  hc (fun hW => ?_))
  refine P_aload_n d_73_105 rfl ?_
  refine A_iconst d_73_106 ic_3 ?_
  refine P_iload_n d_73_107 rfl ?_
  refine A_V2 d_73_108 vk_73_60 ml_72 rfl k_7 hW rfl hf (fun r3 M4 hc hf => hg0 _ _ _ _ _ _ hW hc (fun hW hb4 => ?_))
  refine A_if_ne (tgt := 116) d_73_111 rfl hf (fun hf => ?_) (fun hf => ?_)
  · refine P_aload_n d_73_116 rfl ?_
    refine A_gM d_73_117 cn_73 fk_CordLoft_Reader_15 k_7 hW hf (fun hk5 hf => ?_)
    refine A_gFr d_73_120 cn_73 fk_CordLoft_Reader_148 ft_5_11 hk5 hW ?_
    refine P_iload_n d_73_123 rfl ?_
    refine P_ineg d_73_124 ?_
    refine A_V1 d_73_125 vk_73_152 ml_74 rfl (kr_5_9 hk5) hW rfl hf (fun r6 M7 hc hf => t_Form_put hW (kr_5_9 hk5) hc (fun hW => ?_))
    refine A_iconst d_73_128 ic_1 ?_
    exact A_zret d_73_129 mr_73 hW (Or.inr rfl) hf k
  · refine A_iconst d_73_114 ic_0 ?_
    exact A_zret d_73_115 mr_73 hW (Or.inl rfl) hf k
def f_Reader_readOne_B (gr : Nat → Int32 → Int32 → AM → Option (Int32 × AM)) (a1 : Int32) (M : AM) : Option (Int32 × AM) :=
  if (gI M 3 6) = 139 then if a1 < 7 then bnd (f_Tokens_step  M) (fun r3 M4 => bnd (gr 1 (a1 + 1) 0 M4) (fun r5 M6 => if r5 = 0 then some (0, M6) else ckK (gR M6 7 1) 5 (bnd (f_Form_put ((gR M6 7 1) + 9) (-139) M6) (fun r8 M9 => some (1, M9))))) else bnd (f_Reader_refuse 2 M) (fun r10 M11 => some (r10, M11)) else bnd (gr 0 3 a1 M) (fun r1 M2 => if r1 = 0 then some (0, M2) else if (gI M2 3 6) = 60 then f_Reader_readOne_j98 gr a1 (gI M2 3 6) M2 else if (gI M2 3 6) = 62 then f_Reader_readOne_j98 gr a1 (gI M2 3 6) M2 else if (gI M2 3 6) = 61 then f_Reader_readOne_j98 gr a1 (gI M2 3 6) M2 else some (1, M2))
set_option maxRecDepth 20000 in
theorem t_Reader_readOne_B {G : GT} {d : Nat} {gr : Nat → Int32 → Int32 → AM → Option (Int32 × AM)} {a1 : Int32} {M : AM} {Q : AM → Option Value → Prop} {r : Int32} {M' : AM} (hg0 : ∀ (a b : Int32) (M : AM) (r : Int32) (M' : AM) (Q : AM → Option Value → Prop), WT M → gr 0 a b M = some (r, M') → (WT M' → (r = 0 ∨ r = 1) → Q M' (some (.int r))) → Cal G (d + 4) 72 [.ref 7, .int a, .int b] M Q) (hg1 : ∀ (a b : Int32) (M : AM) (r : Int32) (M' : AM) (Q : AM → Option Value → Prop), WT M → gr 1 a b M = some (r, M') → (WT M' → (r = 0 ∨ r = 1) → Q M' (some (.int r))) → Cal G (d + 4) 73 [.ref 7, .int a] M Q) (hg2 : ∀ (a b : Int32) (M : AM) (r : Int32) (M' : AM) (Q : AM → Option Value → Prop), WT M → gr 2 a b M = some (r, M') → (WT M' → (r = 0 ∨ r = 1) → Q M' (some (.int r))) → Cal G (d + 4) 75 [.ref 7, .int a] M Q) (hW : WT M)  (hf : f_Reader_readOne_B gr a1 M = some (r, M')) (k : WT M' → (r = 0 ∨ r = 1) → Q M' (some (.int r)))  : Cal G (d + 5) 73 [.ref 7, .int a1] M Q := by
  refine A_enter ml_73 rfl ?_
  refine P_aload_n d_73_0 rfl ?_
  refine A_gF d_73_1 cn_73 fk_CordLoft_Reader_9 ft_6_0 k_7 hW ?_
  refine A_gI d_73_4 cn_73 fk_CordLoft_Reader_36 k_3 hW ?_
  refine P_sipush d_73_7 si_139 ?_
  refine A_icmp_ne (tgt := 59) d_73_10 rfl hf (fun hf => ?_) (fun hf => ?_)
  · refine P_aload_n d_73_59 rfl ?_
    refine A_iconst d_73_60 ic_3 ?_
    refine P_iload_n d_73_61 rfl ?_
    refine A_V2 d_73_62 vk_73_60 ml_72 rfl k_7 hW rfl hf (fun r1 M2 hc hf => hg0 _ _ _ _ _ _ hW hc (fun hW hb2 => ?_))
    refine A_if_ne (tgt := 70) d_73_65 rfl hf (fun hf => ?_) (fun hf => ?_)
    · refine P_aload_n d_73_70 rfl ?_
      refine A_gF d_73_71 cn_73 fk_CordLoft_Reader_9 ft_6_0 k_7 hW ?_
      refine A_gI d_73_74 cn_73 fk_CordLoft_Reader_36 k_3 hW ?_
      refine A_istore_n d_73_77 ml_73 rfl rfl ?_
      refine P_iload_n d_73_78 rfl ?_
      refine P_bipush d_73_79 bi_60 ?_
      refine A_icmp_eq (tgt := 98) d_73_81 rfl hf (fun hf => ?_) (fun hf => ?_)
      · exact t_Reader_readOne_j98 hg0 hg1 hg2 k hW  hf
      · refine P_iload_n d_73_84 rfl ?_
        refine P_bipush d_73_85 bi_62 ?_
        refine A_icmp_eq (tgt := 98) d_73_87 rfl hf (fun hf => ?_) (fun hf => ?_)
        · exact t_Reader_readOne_j98 hg0 hg1 hg2 k hW  hf
        · refine P_iload_n d_73_90 rfl ?_
          refine P_bipush d_73_91 bi_61 ?_
          refine A_icmp_eq (tgt := 98) d_73_93 rfl hf (fun hf => ?_) (fun hf => ?_)
          · exact t_Reader_readOne_j98 hg0 hg1 hg2 k hW  hf
          · refine A_iconst d_73_96 ic_1 ?_
            exact A_zret d_73_97 mr_73 hW (Or.inr rfl) hf k
    · refine A_iconst d_73_68 ic_0 ?_
      exact A_zret d_73_69 mr_73 hW (Or.inl rfl) hf k
  · refine P_iload_n d_73_13 rfl ?_
    refine P_bipush d_73_14 bi_7 ?_
    refine A_icmp_lt (tgt := 25) d_73_16 rfl hf (fun hf => ?_) (fun hf => ?_)
    · refine P_aload_n d_73_25 rfl ?_
      refine A_gF d_73_26 cn_73 fk_CordLoft_Reader_9 ft_6_0 k_7 hW ?_
      refine A_V0 d_73_29 vk_73_89 ml_54 rfl k_3 hW rfl hf (fun r3 M4 hc hf => t_Tokens_step hW  hc (fun hW => ?_))
      refine P_aload_n d_73_32 rfl ?_
      refine P_iload_n d_73_33 rfl ?_
      refine A_iconst d_73_34 ic_1 ?_
      refine P_iadd d_73_35 ?_
      refine A_V1 d_73_36 vk_73_136 ml_73 rfl k_7 hW rfl hf (fun r5 M6 hc hf => hg1 _ _ _ _ _ _ hW hc (fun hW hb6 => ?_))
      refine A_if_ne (tgt := 44) d_73_39 rfl hf (fun hf => ?_) (fun hf => ?_)
      · refine P_aload_n d_73_44 rfl ?_
        refine A_gM d_73_45 cn_73 fk_CordLoft_Reader_15 k_7 hW hf (fun hk7 hf => ?_)
        refine A_gFr d_73_48 cn_73 fk_CordLoft_Reader_148 ft_5_11 hk7 hW ?_
        refine P_sipush d_73_51 si_m139 ?_
        refine A_V1 d_73_54 vk_73_152 ml_74 rfl (kr_5_9 hk7) hW rfl hf (fun r8 M9 hc hf => t_Form_put hW (kr_5_9 hk7) hc (fun hW => ?_))
        refine A_iconst d_73_57 ic_1 ?_
        exact A_zret d_73_58 mr_73 hW (Or.inr rfl) hf k
      · refine A_iconst d_73_42 ic_0 ?_
        exact A_zret d_73_43 mr_73 hW (Or.inl rfl) hf k
    · refine P_aload_n d_73_19 rfl ?_
      refine A_iconst d_73_20 ic_2 ?_
      refine A_V1 d_73_21 vk_73_80 ml_60 rfl k_7 hW rfl hf (fun r10 M11 hc hf => t_Reader_refuse hW  hc (fun hW hb11 => ?_))
      exact A_zret d_73_24 mr_73 hW hb11 hf k
def f_Reader_readUnit_j161 (gr : Nat → Int32 → Int32 → AM → Option (Int32 × AM)) (s0 : Nat) (s1 : Int32) (M : AM) : Option (Int32 × AM) :=
  bnd (f_Form_put s0 s1 M) (fun r1 M2 => bnd (f_Tokens_step  M2) (fun r3 M4 => some (1, M4)))
set_option maxRecDepth 20000 in
theorem t_Reader_readUnit_j161 {G : GT} {d : Nat} {gr : Nat → Int32 → Int32 → AM → Option (Int32 × AM)} {s0 : Nat} {s1 : Int32} {M : AM} {Q : AM → Option Value → Prop} {r : Int32} {M' : AM} (hg0 : ∀ (a b : Int32) (M : AM) (r : Int32) (M' : AM) (Q : AM → Option Value → Prop), WT M → gr 0 a b M = some (r, M') → (WT M' → (r = 0 ∨ r = 1) → Q M' (some (.int r))) → Cal G (d + 4) 72 [.ref 7, .int a, .int b] M Q) (hg1 : ∀ (a b : Int32) (M : AM) (r : Int32) (M' : AM) (Q : AM → Option Value → Prop), WT M → gr 1 a b M = some (r, M') → (WT M' → (r = 0 ∨ r = 1) → Q M' (some (.int r))) → Cal G (d + 4) 73 [.ref 7, .int a] M Q) (hg2 : ∀ (a b : Int32) (M : AM) (r : Int32) (M' : AM) (Q : AM → Option Value → Prop), WT M → gr 2 a b M = some (r, M') → (WT M' → (r = 0 ∨ r = 1) → Q M' (some (.int r))) → Cal G (d + 4) 75 [.ref 7, .int a] M Q) (k : WT M' → (r = 0 ∨ r = 1) → Q M' (some (.int r))) (hW : WT M) (hs0 : kd0 s0 = 3) (hf : f_Reader_readUnit_j161 gr s0 s1 M = some (r, M')) : PW G (d + 5) 75 161 [.ref 7, ux, ux, ux, ux] [.int s1, .ref s0] M 0 0 Q := by
  refine A_V1 d_75_161 vk_75_152 ml_74 rfl hs0 hW rfl hf (fun r1 M2 hc hf => t_Form_put hW hs0 hc (fun hW => ?_))
  refine P_aload_n d_75_164 rfl ?_
  refine A_gF d_75_165 cn_75 fk_CordLoft_Reader_9 ft_6_0 k_7 hW ?_
  refine A_V0 d_75_168 vk_75_89 ml_54 rfl k_3 hW rfl hf (fun r3 M4 hc hf => t_Tokens_step hW  hc (fun hW => ?_))
  refine A_iconst d_75_171 ic_1 ?_
  exact A_zret d_75_172 mr_75 hW (Or.inr rfl) hf k
def f_Reader_readUnit_j76 (gr : Nat → Int32 → Int32 → AM → Option (Int32 × AM))  (M : AM) : Option (Int32 × AM) :=
  bnd (f_Reader_refuse 2 M) (fun r1 M2 => some (r1, M2))
set_option maxRecDepth 20000 in
theorem t_Reader_readUnit_j76 {G : GT} {d : Nat} {gr : Nat → Int32 → Int32 → AM → Option (Int32 × AM)}  {M : AM} {Q : AM → Option Value → Prop} {r : Int32} {M' : AM} (hg0 : ∀ (a b : Int32) (M : AM) (r : Int32) (M' : AM) (Q : AM → Option Value → Prop), WT M → gr 0 a b M = some (r, M') → (WT M' → (r = 0 ∨ r = 1) → Q M' (some (.int r))) → Cal G (d + 4) 72 [.ref 7, .int a, .int b] M Q) (hg1 : ∀ (a b : Int32) (M : AM) (r : Int32) (M' : AM) (Q : AM → Option Value → Prop), WT M → gr 1 a b M = some (r, M') → (WT M' → (r = 0 ∨ r = 1) → Q M' (some (.int r))) → Cal G (d + 4) 73 [.ref 7, .int a] M Q) (hg2 : ∀ (a b : Int32) (M : AM) (r : Int32) (M' : AM) (Q : AM → Option Value → Prop), WT M → gr 2 a b M = some (r, M') → (WT M' → (r = 0 ∨ r = 1) → Q M' (some (.int r))) → Cal G (d + 4) 75 [.ref 7, .int a] M Q) (k : WT M' → (r = 0 ∨ r = 1) → Q M' (some (.int r))) (hW : WT M)  (hf : f_Reader_readUnit_j76 gr  M = some (r, M')) : PW G (d + 5) 75 76 [.ref 7, ux, ux, ux, ux] [] M 0 0 Q := by
  refine P_aload_n d_75_76 rfl ?_
  refine A_iconst d_75_77 ic_2 ?_
  refine A_V1 d_75_78 vk_75_80 ml_60 rfl k_7 hW rfl hf (fun r1 M2 hc hf => t_Reader_refuse hW  hc (fun hW hb2 => ?_))
  exact A_zret d_75_81 mr_75 hW hb2 hf k
def f_Reader_readUnit_j54 (gr : Nat → Int32 → Int32 → AM → Option (Int32 × AM)) (v1 : Int32) (v2 : Int32) (v3 : Int32) (s0 : Int32) (M : AM) : Option (Int32 × AM) :=
  if s0 = 0 then f_Reader_readUnit_j76 gr  M else ckK (gR M 7 1) 5 (if (gI M ((gR M 7 1) + 9) 4) < 30 then ckK (gR M 7 1) 5 (wI M ((gR M 7 1) + 9) 4 ((gI M ((gR M 7 1) + 9) 4) + 1) (fun M3 => if v2 = 40 then bnd (f_Tokens_step  M3) (fun r5 M6 => bnd (gr 0 0 (v1 + 1) M6) (fun r7 M8 => if r7 = 0 then some (0, M8) else bnd (f_Reader_expect 41 M8) (fun r9 M10 => if r9 = 0 then some (0, M10) else some (1, M10)))) else ckK (gR M3 7 1) 5 (if v3 = 0 then f_Reader_readUnit_j161 gr ((gR M3 7 1) + 9) ((gL M3 3 8).toInt32) M3 else f_Reader_readUnit_j161 gr ((gR M3 7 1) + 9) (-v2) M3))) else f_Reader_readUnit_j76 gr  M)
set_option maxRecDepth 20000 in
theorem t_Reader_readUnit_j54 {G : GT} {d : Nat} {gr : Nat → Int32 → Int32 → AM → Option (Int32 × AM)} {v1 : Int32} {v2 : Int32} {v3 : Int32} {s0 : Int32} {M : AM} {Q : AM → Option Value → Prop} {r : Int32} {M' : AM} (hg0 : ∀ (a b : Int32) (M : AM) (r : Int32) (M' : AM) (Q : AM → Option Value → Prop), WT M → gr 0 a b M = some (r, M') → (WT M' → (r = 0 ∨ r = 1) → Q M' (some (.int r))) → Cal G (d + 4) 72 [.ref 7, .int a, .int b] M Q) (hg1 : ∀ (a b : Int32) (M : AM) (r : Int32) (M' : AM) (Q : AM → Option Value → Prop), WT M → gr 1 a b M = some (r, M') → (WT M' → (r = 0 ∨ r = 1) → Q M' (some (.int r))) → Cal G (d + 4) 73 [.ref 7, .int a] M Q) (hg2 : ∀ (a b : Int32) (M : AM) (r : Int32) (M' : AM) (Q : AM → Option Value → Prop), WT M → gr 2 a b M = some (r, M') → (WT M' → (r = 0 ∨ r = 1) → Q M' (some (.int r))) → Cal G (d + 4) 75 [.ref 7, .int a] M Q) (k : WT M' → (r = 0 ∨ r = 1) → Q M' (some (.int r))) (hW : WT M)  (hf : f_Reader_readUnit_j54 gr v1 v2 v3 s0 M = some (r, M')) : PW G (d + 5) 75 54 [.ref 7, .int v1, .int v2, .int v3, ux] [.int s0] M 0 0 Q := by
  refine A_istore d_75_54 ml_75 rfl rfl ?_
  refine P_iload d_75_56 rfl ?_
  refine A_if_eq (tgt := 76) d_75_58 rfl hf (fun hf => ?_) (fun hf => ?_)
  · refine P_fgt [true, false, false, false, false] ?_
    exact t_Reader_readUnit_j76 hg0 hg1 hg2 k hW  hf
  · refine P_aload_n d_75_61 rfl ?_
    refine A_gM d_75_62 cn_75 fk_CordLoft_Reader_15 k_7 hW hf (fun hk1 hf => ?_)
    refine A_gFr d_75_65 cn_75 fk_CordLoft_Reader_148 ft_5_11 hk1 hW ?_
    refine A_gI d_75_68 cn_75 fk_CordLoft_Reader_156 (kr_5_9 hk1) hW ?_
    refine P_bipush d_75_71 bi_30 ?_
    refine A_icmp_lt (tgt := 82) d_75_73 rfl hf (fun hf => ?_) (fun hf => ?_)
    · refine P_aload_n d_75_82 rfl ?_
      refine A_gM d_75_83 cn_75 fk_CordLoft_Reader_15 k_7 hW hf (fun hk2 hf => ?_)
      refine A_gFr d_75_86 cn_75 fk_CordLoft_Reader_148 ft_5_11 hk2 hW ?_
      refine P_dup d_75_89 rfl ?_
      refine A_gI d_75_90 cn_75 fk_CordLoft_Reader_156 (kr_5_9 hk2) hW ?_
      refine A_iconst d_75_93 ic_1 ?_
      refine P_iadd d_75_94 ?_
      refine A_pI d_75_95 cn_75 fp_CordLoft_Reader_156 (kr_5_9 hk2) hW hf (fun hW hf => ?_)
      refine P_iload_n d_75_98 rfl ?_
      refine P_bipush d_75_99 bi_40 ?_
      refine A_icmp_ne (tgt := 137) d_75_101 rfl hf (fun hf => ?_) (fun hf => ?_)
      · refine P_aload_n d_75_137 rfl ?_
        refine A_gM d_75_138 cn_75 fk_CordLoft_Reader_15 k_7 hW hf (fun hk4 hf => ?_)
        refine A_gFr d_75_141 cn_75 fk_CordLoft_Reader_148 ft_5_11 hk4 hW ?_
        refine P_iload_n d_75_144 rfl ?_
        refine A_if_eq (tgt := 153) d_75_145 rfl hf (fun hf => ?_) (fun hf => ?_)
        · refine P_aload_n d_75_153 rfl ?_
          refine A_gF d_75_154 cn_75 fk_CordLoft_Reader_9 ft_6_0 k_7 hW ?_
          refine A_gL d_75_157 cn_75 fk_CordLoft_Reader_92 k_3 hW ?_
          refine P_l2i d_75_160 ?_
          refine P_fgt [true, false, false, false, false] ?_
          exact t_Reader_readUnit_j161 hg0 hg1 hg2 k hW (kr_5_9 hk4) hf
        · refine P_iload_n d_75_148 rfl ?_
          refine P_ineg d_75_149 ?_
          refine P_goto (tgt := 161) d_75_150 rfl ?_
          refine P_fgt [true, false, false, false, false] ?_
          exact t_Reader_readUnit_j161 hg0 hg1 hg2 k hW (kr_5_9 hk4) hf
      · refine P_aload_n d_75_104 rfl ?_
        refine A_gF d_75_105 cn_75 fk_CordLoft_Reader_9 ft_6_0 k_7 hW ?_
        refine A_V0 d_75_108 vk_75_89 ml_54 rfl k_3 hW rfl hf (fun r5 M6 hc hf => t_Tokens_step hW  hc (fun hW => ?_))
        refine P_aload_n d_75_111 rfl ?_
        refine A_iconst d_75_112 ic_0 ?_
        refine P_iload_n d_75_113 rfl ?_
        refine A_iconst d_75_114 ic_1 ?_
        refine P_iadd d_75_115 ?_
        refine A_V2 d_75_116 vk_75_60 ml_72 rfl k_7 hW rfl hf (fun r7 M8 hc hf => hg0 _ _ _ _ _ _ hW hc (fun hW hb8 => ?_))
        refine A_if_eq (tgt := 135) d_75_119 rfl hf (fun hf => ?_) (fun hf => ?_)
        · refine A_iconst d_75_135 ic_0 ?_
          exact A_zret d_75_136 mr_75 hW (Or.inl rfl) hf k
        · refine P_aload_n d_75_122 rfl ?_
          refine P_bipush d_75_123 bi_41 ?_
          refine A_V1 d_75_125 vk_75_83 ml_67 rfl k_7 hW rfl hf (fun r9 M10 hc hf => t_Reader_expect hW  hc (fun hW hb10 => ?_))
          refine A_if_eq (tgt := 135) d_75_128 rfl hf (fun hf => ?_) (fun hf => ?_)
          · refine A_iconst d_75_135 ic_0 ?_
            exact A_zret d_75_136 mr_75 hW (Or.inl rfl) hf k
          · refine A_iconst d_75_131 ic_1 ?_
            refine P_goto (tgt := 136) d_75_132 rfl ?_
            exact A_zret d_75_136 mr_75 hW (Or.inr rfl) hf k
    · refine P_fgt [true, false, false, false, false] ?_
      exact t_Reader_readUnit_j76 hg0 hg1 hg2 k hW  hf
def f_Reader_readUnit_j53 (gr : Nat → Int32 → Int32 → AM → Option (Int32 × AM)) (v1 : Int32) (v2 : Int32) (v3 : Int32) (M : AM) : Option (Int32 × AM) :=
  f_Reader_readUnit_j54 gr v1 v2 v3 0 M
set_option maxRecDepth 20000 in
theorem t_Reader_readUnit_j53 {G : GT} {d : Nat} {gr : Nat → Int32 → Int32 → AM → Option (Int32 × AM)} {v1 : Int32} {v2 : Int32} {v3 : Int32} {M : AM} {Q : AM → Option Value → Prop} {r : Int32} {M' : AM} (hg0 : ∀ (a b : Int32) (M : AM) (r : Int32) (M' : AM) (Q : AM → Option Value → Prop), WT M → gr 0 a b M = some (r, M') → (WT M' → (r = 0 ∨ r = 1) → Q M' (some (.int r))) → Cal G (d + 4) 72 [.ref 7, .int a, .int b] M Q) (hg1 : ∀ (a b : Int32) (M : AM) (r : Int32) (M' : AM) (Q : AM → Option Value → Prop), WT M → gr 1 a b M = some (r, M') → (WT M' → (r = 0 ∨ r = 1) → Q M' (some (.int r))) → Cal G (d + 4) 73 [.ref 7, .int a] M Q) (hg2 : ∀ (a b : Int32) (M : AM) (r : Int32) (M' : AM) (Q : AM → Option Value → Prop), WT M → gr 2 a b M = some (r, M') → (WT M' → (r = 0 ∨ r = 1) → Q M' (some (.int r))) → Cal G (d + 4) 75 [.ref 7, .int a] M Q) (k : WT M' → (r = 0 ∨ r = 1) → Q M' (some (.int r))) (hW : WT M)  (hf : f_Reader_readUnit_j53 gr v1 v2 v3 M = some (r, M')) : PW G (d + 5) 75 53 [.ref 7, .int v1, .int v2, .int v3, ux] [] M 0 0 Q := by
  refine A_iconst d_75_53 ic_0 ?_
  exact t_Reader_readUnit_j54 hg0 hg1 hg2 k hW  hf
def f_Reader_readUnit_j49 (gr : Nat → Int32 → Int32 → AM → Option (Int32 × AM)) (v1 : Int32) (v2 : Int32) (v3 : Int32) (M : AM) : Option (Int32 × AM) :=
  f_Reader_readUnit_j54 gr v1 v2 v3 1 M
set_option maxRecDepth 20000 in
theorem t_Reader_readUnit_j49 {G : GT} {d : Nat} {gr : Nat → Int32 → Int32 → AM → Option (Int32 × AM)} {v1 : Int32} {v2 : Int32} {v3 : Int32} {M : AM} {Q : AM → Option Value → Prop} {r : Int32} {M' : AM} (hg0 : ∀ (a b : Int32) (M : AM) (r : Int32) (M' : AM) (Q : AM → Option Value → Prop), WT M → gr 0 a b M = some (r, M') → (WT M' → (r = 0 ∨ r = 1) → Q M' (some (.int r))) → Cal G (d + 4) 72 [.ref 7, .int a, .int b] M Q) (hg1 : ∀ (a b : Int32) (M : AM) (r : Int32) (M' : AM) (Q : AM → Option Value → Prop), WT M → gr 1 a b M = some (r, M') → (WT M' → (r = 0 ∨ r = 1) → Q M' (some (.int r))) → Cal G (d + 4) 73 [.ref 7, .int a] M Q) (hg2 : ∀ (a b : Int32) (M : AM) (r : Int32) (M' : AM) (Q : AM → Option Value → Prop), WT M → gr 2 a b M = some (r, M') → (WT M' → (r = 0 ∨ r = 1) → Q M' (some (.int r))) → Cal G (d + 4) 75 [.ref 7, .int a] M Q) (k : WT M' → (r = 0 ∨ r = 1) → Q M' (some (.int r))) (hW : WT M)  (hf : f_Reader_readUnit_j49 gr v1 v2 v3 M = some (r, M')) : PW G (d + 5) 75 49 [.ref 7, .int v1, .int v2, .int v3, ux] [] M 0 0 Q := by
  refine A_iconst d_75_49 ic_1 ?_
  refine P_goto (tgt := 54) d_75_50 rfl ?_
  exact t_Reader_readUnit_j54 hg0 hg1 hg2 k hW  hf
def f_Reader_readUnit_j27 (gr : Nat → Int32 → Int32 → AM → Option (Int32 × AM)) (v1 : Int32) (v2 : Int32) (s0 : Int32) (M : AM) : Option (Int32 × AM) :=
  if s0 = 0 then if v2 = 3 then f_Reader_readUnit_j49 gr v1 v2 s0 M else if v2 = 40 then if 7 ≤ v1 then f_Reader_readUnit_j53 gr v1 v2 s0 M else f_Reader_readUnit_j49 gr v1 v2 s0 M else f_Reader_readUnit_j53 gr v1 v2 s0 M else f_Reader_readUnit_j49 gr v1 v2 s0 M
set_option maxRecDepth 20000 in
theorem t_Reader_readUnit_j27 {G : GT} {d : Nat} {gr : Nat → Int32 → Int32 → AM → Option (Int32 × AM)} {v1 : Int32} {v2 : Int32} {s0 : Int32} {M : AM} {Q : AM → Option Value → Prop} {r : Int32} {M' : AM} (hg0 : ∀ (a b : Int32) (M : AM) (r : Int32) (M' : AM) (Q : AM → Option Value → Prop), WT M → gr 0 a b M = some (r, M') → (WT M' → (r = 0 ∨ r = 1) → Q M' (some (.int r))) → Cal G (d + 4) 72 [.ref 7, .int a, .int b] M Q) (hg1 : ∀ (a b : Int32) (M : AM) (r : Int32) (M' : AM) (Q : AM → Option Value → Prop), WT M → gr 1 a b M = some (r, M') → (WT M' → (r = 0 ∨ r = 1) → Q M' (some (.int r))) → Cal G (d + 4) 73 [.ref 7, .int a] M Q) (hg2 : ∀ (a b : Int32) (M : AM) (r : Int32) (M' : AM) (Q : AM → Option Value → Prop), WT M → gr 2 a b M = some (r, M') → (WT M' → (r = 0 ∨ r = 1) → Q M' (some (.int r))) → Cal G (d + 4) 75 [.ref 7, .int a] M Q) (k : WT M' → (r = 0 ∨ r = 1) → Q M' (some (.int r))) (hW : WT M)  (hf : f_Reader_readUnit_j27 gr v1 v2 s0 M = some (r, M')) : PW G (d + 5) 75 27 [.ref 7, .int v1, .int v2, ux, ux] [.int s0] M 0 0 Q := by
  refine A_istore_n d_75_27 ml_75 rfl rfl ?_
  refine P_iload_n d_75_28 rfl ?_
  refine A_if_ne (tgt := 49) d_75_29 rfl hf (fun hf => ?_) (fun hf => ?_)
  · exact t_Reader_readUnit_j49 hg0 hg1 hg2 k hW  hf
  · refine P_iload_n d_75_32 rfl ?_
    refine A_iconst d_75_33 ic_3 ?_
    refine A_icmp_eq (tgt := 49) d_75_34 rfl hf (fun hf => ?_) (fun hf => ?_)
    · exact t_Reader_readUnit_j49 hg0 hg1 hg2 k hW  hf
    · refine P_iload_n d_75_37 rfl ?_
      refine P_bipush d_75_38 bi_40 ?_
      refine A_icmp_ne (tgt := 53) d_75_40 rfl hf (fun hf => ?_) (fun hf => ?_)
      · exact t_Reader_readUnit_j53 hg0 hg1 hg2 k hW  hf
      · refine P_iload_n d_75_43 rfl ?_
        refine P_bipush d_75_44 bi_7 ?_
        refine A_icmp_ge (tgt := 53) d_75_46 rfl hf (fun hf => ?_) (fun hf => ?_)
        · exact t_Reader_readUnit_j53 hg0 hg1 hg2 k hW  hf
        · exact t_Reader_readUnit_j49 hg0 hg1 hg2 k hW  hf
def f_Reader_readUnit_j26 (gr : Nat → Int32 → Int32 → AM → Option (Int32 × AM)) (v1 : Int32) (v2 : Int32) (M : AM) : Option (Int32 × AM) :=
  f_Reader_readUnit_j27 gr v1 v2 0 M
set_option maxRecDepth 20000 in
theorem t_Reader_readUnit_j26 {G : GT} {d : Nat} {gr : Nat → Int32 → Int32 → AM → Option (Int32 × AM)} {v1 : Int32} {v2 : Int32} {M : AM} {Q : AM → Option Value → Prop} {r : Int32} {M' : AM} (hg0 : ∀ (a b : Int32) (M : AM) (r : Int32) (M' : AM) (Q : AM → Option Value → Prop), WT M → gr 0 a b M = some (r, M') → (WT M' → (r = 0 ∨ r = 1) → Q M' (some (.int r))) → Cal G (d + 4) 72 [.ref 7, .int a, .int b] M Q) (hg1 : ∀ (a b : Int32) (M : AM) (r : Int32) (M' : AM) (Q : AM → Option Value → Prop), WT M → gr 1 a b M = some (r, M') → (WT M' → (r = 0 ∨ r = 1) → Q M' (some (.int r))) → Cal G (d + 4) 73 [.ref 7, .int a] M Q) (hg2 : ∀ (a b : Int32) (M : AM) (r : Int32) (M' : AM) (Q : AM → Option Value → Prop), WT M → gr 2 a b M = some (r, M') → (WT M' → (r = 0 ∨ r = 1) → Q M' (some (.int r))) → Cal G (d + 4) 75 [.ref 7, .int a] M Q) (k : WT M' → (r = 0 ∨ r = 1) → Q M' (some (.int r))) (hW : WT M)  (hf : f_Reader_readUnit_j26 gr v1 v2 M = some (r, M')) : PW G (d + 5) 75 26 [.ref 7, .int v1, .int v2, ux, ux] [] M 0 0 Q := by
  refine A_iconst d_75_26 ic_0 ?_
  exact t_Reader_readUnit_j27 hg0 hg1 hg2 k hW  hf
def f_Reader_readUnit_B (gr : Nat → Int32 → Int32 → AM → Option (Int32 × AM)) (a1 : Int32) (M : AM) : Option (Int32 × AM) :=
  if (gI M 3 6) < 140 then f_Reader_readUnit_j26 gr a1 (gI M 3 6) M else if 145 < (gI M 3 6) then f_Reader_readUnit_j26 gr a1 (gI M 3 6) M else f_Reader_readUnit_j27 gr a1 (gI M 3 6) 1 M
set_option maxRecDepth 20000 in
theorem t_Reader_readUnit_B {G : GT} {d : Nat} {gr : Nat → Int32 → Int32 → AM → Option (Int32 × AM)} {a1 : Int32} {M : AM} {Q : AM → Option Value → Prop} {r : Int32} {M' : AM} (hg0 : ∀ (a b : Int32) (M : AM) (r : Int32) (M' : AM) (Q : AM → Option Value → Prop), WT M → gr 0 a b M = some (r, M') → (WT M' → (r = 0 ∨ r = 1) → Q M' (some (.int r))) → Cal G (d + 4) 72 [.ref 7, .int a, .int b] M Q) (hg1 : ∀ (a b : Int32) (M : AM) (r : Int32) (M' : AM) (Q : AM → Option Value → Prop), WT M → gr 1 a b M = some (r, M') → (WT M' → (r = 0 ∨ r = 1) → Q M' (some (.int r))) → Cal G (d + 4) 73 [.ref 7, .int a] M Q) (hg2 : ∀ (a b : Int32) (M : AM) (r : Int32) (M' : AM) (Q : AM → Option Value → Prop), WT M → gr 2 a b M = some (r, M') → (WT M' → (r = 0 ∨ r = 1) → Q M' (some (.int r))) → Cal G (d + 4) 75 [.ref 7, .int a] M Q) (hW : WT M)  (hf : f_Reader_readUnit_B gr a1 M = some (r, M')) (k : WT M' → (r = 0 ∨ r = 1) → Q M' (some (.int r)))  : Cal G (d + 5) 75 [.ref 7, .int a1] M Q := by
  refine A_enter ml_75 rfl ?_
  refine P_aload_n d_75_0 rfl ?_
  refine A_gF d_75_1 cn_75 fk_CordLoft_Reader_9 ft_6_0 k_7 hW ?_
  refine A_gI d_75_4 cn_75 fk_CordLoft_Reader_36 k_3 hW ?_
  refine A_istore_n d_75_7 ml_75 rfl rfl ?_
  refine P_iload_n d_75_8 rfl ?_
  refine P_sipush d_75_9 si_140 ?_
  refine A_icmp_lt (tgt := 26) d_75_12 rfl hf (fun hf => ?_) (fun hf => ?_)
  · exact t_Reader_readUnit_j26 hg0 hg1 hg2 k hW  hf
  · refine P_iload_n d_75_15 rfl ?_
    refine P_sipush d_75_16 si_145 ?_
    refine A_icmp_gt (tgt := 26) d_75_19 rfl hf (fun hf => ?_) (fun hf => ?_)
    · exact t_Reader_readUnit_j26 hg0 hg1 hg2 k hW  hf
    · refine A_iconst d_75_22 ic_1 ?_
      refine P_goto (tgt := 27) d_75_23 rfl ?_
      exact t_Reader_readUnit_j27 hg0 hg1 hg2 k hW  hf
def f_grp : Nat → Nat → Int32 → Int32 → AM → Option (Int32 × AM)
  | 0, _, _, _, _ => none
  | n + 1, sel, a, b, M => if sel = 0 then f_Reader_readJoined_B (f_grp n) a b M else if sel = 1 then f_Reader_readOne_B (f_grp n) a M else f_Reader_readUnit_B (f_grp n) a M
theorem f_grp_s0 (n : Nat) (a b : Int32) (M : AM) : f_grp (n + 1) 0 a b M = f_Reader_readJoined_B (f_grp n) a b M := by rw [f_grp, if_pos rfl]
theorem f_grp_s1 (n : Nat) (a b : Int32) (M : AM) : f_grp (n + 1) 1 a b M = f_Reader_readOne_B (f_grp n) a M := by rw [f_grp, if_neg (by decide), if_pos rfl]
theorem f_grp_s2 (n : Nat) (a b : Int32) (M : AM) : f_grp (n + 1) 2 a b M = f_Reader_readUnit_B (f_grp n) a M := by rw [f_grp, if_neg (by decide), if_neg (by decide)]
theorem t_grp_all {G : GT} : ∀ (n d : Nat),
    (∀ (a b : Int32) (M : AM) (r : Int32) (M' : AM) (Q : AM → Option Value → Prop), WT M → f_grp n 0 a b M = some (r, M') → (WT M' → (r = 0 ∨ r = 1) → Q M' (some (.int r))) → Cal G (n + d + 4) 72 [.ref 7, .int a, .int b] M Q) ∧
    (∀ (a b : Int32) (M : AM) (r : Int32) (M' : AM) (Q : AM → Option Value → Prop), WT M → f_grp n 1 a b M = some (r, M') → (WT M' → (r = 0 ∨ r = 1) → Q M' (some (.int r))) → Cal G (n + d + 4) 73 [.ref 7, .int a] M Q) ∧
    (∀ (a b : Int32) (M : AM) (r : Int32) (M' : AM) (Q : AM → Option Value → Prop), WT M → f_grp n 2 a b M = some (r, M') → (WT M' → (r = 0 ∨ r = 1) → Q M' (some (.int r))) → Cal G (n + d + 4) 75 [.ref 7, .int a] M Q) := by
  intro n
  induction n with
  | zero => intro d; exact ⟨(by intro a b M r M' Q hW hf; cases hf), (by intro a b M r M' Q hW hf; cases hf), (by intro a b M r M' Q hW hf; cases hf)⟩
  | succ n ih =>
    intro d
    obtain ⟨h0, h1, h2⟩ := ih d
    have e : n + 1 + d + 4 = n + d + 5 := by omega
    rw [e]
    refine ⟨?_, ?_, ?_⟩
    · intro a b M r M' Q hW hf k
      rw [f_grp_s0] at hf
      exact t_Reader_readJoined_B (d := n + d) h0 h1 h2 hW hf k
    · intro a b M r M' Q hW hf k
      rw [f_grp_s1] at hf
      exact t_Reader_readOne_B (d := n + d) h0 h1 h2 hW hf k
    · intro a b M r M' Q hW hf k
      rw [f_grp_s2] at hf
      exact t_Reader_readUnit_B (d := n + d) h0 h1 h2 hW hf k
theorem t_grp0 {G : GT} {d : Nat} {a b : Int32} {M : AM} {r : Int32} {M' : AM} {Q : AM → Option Value → Prop} (hW : WT M) (hf : f_grp 100 0 a b M = some (r, M')) (k : WT M' → (r = 0 ∨ r = 1) → Q M' (some (.int r))) : Cal G (d + 104) 72 [.ref 7, .int a, .int b] M Q := by
  have h := (t_grp_all (G := G) 100 d).1 a b M r M' Q hW hf k
  have e : 100 + d + 4 = d + 104 := by omega
  rw [e] at h
  exact h
end
