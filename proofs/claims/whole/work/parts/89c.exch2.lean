/-! exchange: the reference -/
/-- what the reference's reckoning of costs looks at -/
def MV (D : DT) (C : Nat → Nat) (N : AM) : Prop := gI N 105 42 = nI (D 0 1) ∧ (∀ i, i < 5 → gI N 123 i = nI (D (10 + D 7 0) i)) ∧ ∀ c, c < D 0 1 → gI N 121 c = nI (D 3 c) ∧ gI N 122 c = nI (C c)
theorem Rel.mv {D : DT} {M : AM} (h : Rel D M) : MV D (D 4) M := ⟨h.2.2.2.2.2.1.1.2.2.1, fun i hi => now_ok h hi, fun c hc => h.2.2.2.2.2.1.2.2.1 c hc⟩
section MVS
variable {D : DT} {M N : AM} {C : Nat → Nat}
theorem free_mv (h : Rel D M) (hv : MV D C N) : f_Mo_free N = some (nI (frN (D 0 1) (D (10 + D 7 0) 1)), N) := by
  unfold f_Mo_free
  rw [show ∀ κ : Int32 → Option (Int32 × AM), ald 5 N 123 1 κ = κ (gI N 123 1) from fun κ => ald_nI (j := 1) (by decide) (by decide), hv.2.1 1 (by decide), hv.1, fr_I _ (by have := h.1.2.1; omega) _ h.tied' h.tied]
theorem turnedBy_mv (h : Rel D M) (hv : MV D C N) {s : Nat} (hs : s < 2 ^ 31) : f_Mo_turnedBy (nI s) N = some (nI (xt (D 3) (D 0 1) s), N) := by
  unfold f_Mo_turnedBy
  have hnc := h.1.2.1
  have key : f_Mo_turnedBy_l4 (nI s) fu 0 0 N = some (nI (xt (D 3) (D 0 1) s), N) := for_up (fun z (q : Int32 × Int32 × AM) => f_Mo_turnedBy_l4 (nI s) z q.1 q.2.1 q.2.2) (fun k => (nI (xt (D 3) k s), nI k, N)) (D 0 1) _
    (fun k z hk => by
      show f_Mo_turnedBy_b4 (f_Mo_turnedBy_l4 (nI s) z) (nI s) (nI (xt (D 3) k s)) (nI k) N = f_Mo_turnedBy_l4 (nI s) z (nI (xt (D 3) (k + 1) s)) (nI (k + 1)) N
      unfold f_Mo_turnedBy_b4
      rw [hv.1, if_neg (nI_ge hk (by omega)), has_ok hs (by omega), bnd_s, ald_nI (by omega) (by decide), (hv.2.2 k hk).1, nx_xor, nI_lit 0, nx_xor, nI_1, xt_s]
      by_cases hb : s.testBit k = true
      · rw [if_pos hb, if_neg (by decide), if_pos hb]
      · rw [if_neg hb, if_pos rfl, if_neg hb])
    (fun z => by
      show f_Mo_turnedBy_b4 (f_Mo_turnedBy_l4 (nI s) z) (nI s) (nI (xt (D 3) (D 0 1) s)) (nI (D 0 1)) N = _
      unfold f_Mo_turnedBy_b4
      rw [hv.1, if_pos (nI_le (Nat.le_refl _) (by omega))]) (D 0 1) 0 fu (by omega) (by rw [fu_eq]; omega)
  rw [bnd_eq key]
theorem costOf_mv (h : Rel D M) (hv : MV D C N) {s : Nat} (hs : s < 2 ^ 31) : f_Mo_costOf (nI s) N = some (nI (prc C (D 0 1) s), N) := by
  unfold f_Mo_costOf
  have hnc := h.1.2.1
  have key : f_Mo_costOf_l4 (nI s) fu 0 0 N = some (nI (prc C (D 0 1) s), N) := for_up (fun z (q : Int32 × Int32 × AM) => f_Mo_costOf_l4 (nI s) z q.1 q.2.1 q.2.2) (fun k => (nI (prc C k s), nI k, N)) (D 0 1) _
    (fun k z hk => by
      show f_Mo_costOf_b4 (f_Mo_costOf_l4 (nI s) z) (nI s) (nI (prc C k s)) (nI k) N = f_Mo_costOf_l4 (nI s) z (nI (prc C (k + 1) s)) (nI (k + 1)) N
      unfold f_Mo_costOf_b4
      rw [hv.1, if_neg (nI_ge hk (by omega)), has_ok hs (by omega), bnd_s, ald_nI (by omega) (by decide), (hv.2.2 k hk).2, nI_add, nI_lit 0, nI_add, nI_1, prc_s, tb_mod]
      by_cases hb : s.testBit k = true
      · rw [if_pos hb, if_neg (by decide), if_pos hb, Nat.one_mul]
      · rw [if_neg hb, if_pos rfl, if_neg hb, Nat.zero_mul])
    (fun z => by
      show f_Mo_costOf_b4 (f_Mo_costOf_l4 (nI s) z) (nI s) (nI (prc C (D 0 1) s)) (nI (D 0 1)) N = _
      unfold f_Mo_costOf_b4
      rw [hv.1, if_pos (nI_le (Nat.le_refl _) (by omega))]) (D 0 1) 0 fu (by omega) (by rw [fu_eq]; omega)
  rw [bnd_eq key]
def dcd (D : DT) (C : Nat → Nat) (k : Nat) : Option Int32 := if k &&& frN (D 0 1) (D (10 + D 7 0) 1) = k ∧ D (10 + D 7 0) 0 ^^^ xt (D 3) (D 0 1) k = 0 then some (nI (prc C (D 0 1) k * 16 + pc k)) else none
theorem dcd_some {k : Nat} {s : Int32} (hc : dcd D C k = some s) : (k &&& frN (D 0 1) (D (10 + D 7 0) 1) = k ∧ D (10 + D 7 0) 0 ^^^ xt (D 3) (D 0 1) k = 0) ∧ s = nI (prc C (D 0 1) k * 16 + pc k) := by
  unfold dcd at hc
  by_cases q : k &&& frN (D 0 1) (D (10 + D 7 0) 1) = k ∧ D (10 + D 7 0) 0 ^^^ xt (D 3) (D 0 1) k = 0
  · rw [if_pos q] at hc; cases hc; exact ⟨q, rfl⟩
  · rw [if_neg q] at hc; cases hc
theorem cheapest_mv (h : Rel D M) (hv : MV D C N) (hC : ∀ j, j < D 0 1 → C j ≤ 20) : f_Mo_cheapestFor_l4 0 fu (-1) (nI 0) N = some (bp (scn (dcd D C) (frN (D 0 1) (D (10 + D 7 0) 1) + 1)), N) := by
  have hfr := h.fr'
  have hnc := h.1.2.1
  have h256 := p2_le h.1.1
  have hpl : ∀ s, prc C (D 0 1) s ≤ 160 := fun s => by
    have := prc_le (c := C) s (D 0 1) hC
    omega
  have hx : ∀ s, D (10 + D 7 0) 0 ^^^ xt (D 3) (D 0 1) s < 256 := fun s => Nat.lt_of_lt_of_le (Nat.xor_lt_two_pow h.pic (xt_lt h.1 s _ (Nat.le_refl _))) h256
  have hz : ∀ s, nI (D (10 + D 7 0) 0 ^^^ xt (D 3) (D 0 1) s) = 0 ↔ D (10 + D 7 0) 0 ^^^ xt (D 3) (D 0 1) s = 0 := fun s => nI_eq (b := 0) (by have := hx s; omega) (by decide)
  have hb : ∀ z v2 k, k ≤ frN (D 0 1) (D (10 + D 7 0) 1) → f_Mo_cheapestFor_l4 0 (z + 1) v2 (nI k) N = if k &&& frN (D 0 1) (D (10 + D 7 0) 1) = k ∧ D (10 + D 7 0) 0 ^^^ xt (D 3) (D 0 1) k = 0 then (if v2 < 0 then f_Mo_cheapestFor_l4 0 z (nI k) (nI (k + 1)) N else bnd (f_Mo_costOf v2 N) (fun r12 M13 => if nI (prc C (D 0 1) k) < r12 then f_Mo_cheapestFor_l4 0 z (nI k) (nI (k + 1)) M13 else bnd (f_Mo_costOf (nI k) M13) (fun r14 M15 => bnd (f_Mo_costOf v2 M15) (fun r16 M17 => if r14 = r16 then bnd (f_Mo_members (nI k) M17) (fun r18 M19 => bnd (f_Mo_members v2 M19) (fun r20 M21 => if r20 ≤ r18 then f_Mo_cheapestFor_l4 0 z v2 (nI (k + 1)) M21 else f_Mo_cheapestFor_l4 0 z (nI k) (nI (k + 1)) M21)) else f_Mo_cheapestFor_l4 0 z v2 (nI (k + 1)) M17)))) else f_Mo_cheapestFor_l4 0 z v2 (nI (k + 1)) N := by
    intro z v2 k hk
    show f_Mo_cheapestFor_b4 (f_Mo_cheapestFor_l4 0 z) 0 v2 (nI k) N = _
    unfold f_Mo_cheapestFor_b4
    rw [free_mv h hv, bnd_s, if_neg (nI_nlt hk (by omega)), free_mv h hv, bnd_s, isWithin_ok (by omega) hfr, bnd_s, show ∀ κ : Int32 → Option (Int32 × AM), ald 5 N 123 0 κ = κ (gI N 123 0) from fun κ => ald_nI (j := 0) (by decide) (by decide), hv.2.1 0 (by decide), turnedBy_mv h hv (by omega), bnd_s, nx_xor, costOf_mv h hv (by omega), bnd_s, nI_1]
    by_cases q : k &&& frN (D 0 1) (D (10 + D 7 0) 1) = k
    · rw [if_pos q, if_neg (show ¬ (1 : Int32) = 0 by decide)]
      by_cases q2 : D (10 + D 7 0) 0 ^^^ xt (D 3) (D 0 1) k = 0
      · rw [if_pos ((hz k).mpr q2), if_pos (show k &&& frN (D 0 1) (D (10 + D 7 0) 1) = k ∧ D (10 + D 7 0) 0 ^^^ xt (D 3) (D 0 1) k = 0 from ⟨q, q2⟩)]
      · rw [if_neg (fun e => q2 ((hz k).mp e)), if_neg (fun e => q2 e.2)]
    · rw [if_neg q, if_pos rfl, if_neg (fun e => q e.1)]
  refine scan_up (f_Mo_cheapestFor_l4 0) 0 (frN (D 0 1) (D (10 + D 7 0) 1) + 1) (dcd D C) (Nat.zero_le _) (by omega) rfl (fun k z v2 h1 h2 hc => ?_) (fun k z s h1 h2 hc => ?_) (fun k z s s0 p0 h1 h2 hc hp hc0 => ?_) (fun z v2 => ?_)
  · rw [hb z v2 k (by omega), if_neg (fun q => by unfold dcd at hc; rw [if_pos q] at hc; cases hc)]
  · rw [hb z (-1) k (by omega), if_pos (dcd_some hc).1, if_pos (by decide)]
  · have e1 := hpl k
    have e2 := hpl p0
    have l1 := pc_le k
    have l2 := pc_le p0
    rw [hb z (nI p0) k (by omega), if_pos (dcd_some hc).1, if_neg (nI_pos (by omega)), costOf_mv h hv (by omega), bnd_s, costOf_mv h hv (by omega), bnd_s, costOf_mv h hv (by omega), bnd_s, members_ok (by omega), bnd_s, members_ok (by omega), bnd_s, (dcd_some hc).2, (dcd_some hc0).2]
    by_cases q1 : prc C (D 0 1) k < prc C (D 0 1) p0
    · rw [if_pos (nI_lt q1 (by omega)), if_pos (nI_lt (by omega) (by omega))]
    · rw [if_neg (nI_nlt (by omega) (by omega))]
      by_cases q2 : prc C (D 0 1) k = prc C (D 0 1) p0
      · rw [if_pos (by rw [q2])]
        by_cases q3 : pc p0 ≤ pc k
        · rw [if_pos (nI_le q3 (by omega)), if_neg (nI_nlt (by omega) (by omega))]
        · rw [if_neg (nI_ge (by omega) (by omega)), if_pos (nI_lt (by omega) (by omega))]
      · rw [if_neg (fun w => q2 ((nI_eq (by omega) (by omega)).mp w)), if_neg (nI_nlt (by omega) (by omega))]
  · show f_Mo_cheapestFor_b4 (f_Mo_cheapestFor_l4 0 z) 0 v2 (nI (frN (D 0 1) (D (10 + D 7 0) 1) + 1)) N = _
    unfold f_Mo_cheapestFor_b4
    rw [free_mv h hv, bnd_s, if_pos (nI_lt (by omega) (by omega))]
def mnK : Option Nat → Int32
  | none => 1000000
  | some m => nI m
theorem drk_iff (h : Rel D M) (s : Nat) : (s < 2 ^ D 0 1 ∧ drk D s = true) ↔ (s &&& frN (D 0 1) (D (10 + D 7 0) 1) = s ∧ D (10 + D 7 0) 0 ^^^ xt (D 3) (D 0 1) s = 0) := by
  rw [sub_fr h]
  unfold drk
  rw [Bool.and_eq_true, decide_eq_true_iff, decide_eq_true_iff]
  constructor
  · rintro ⟨h1, h2, h3⟩
    exact ⟨⟨h1, h2⟩, by rw [h3, Nat.xor_self]⟩
  · rintro ⟨⟨h1, h2⟩, h3⟩
    refine ⟨h1, h2, ?_⟩
    have := congrArg (fun x => D (10 + D 7 0) 0 ^^^ x) h3
    simp only [xrt, Nat.xor_zero] at this
    exact this
theorem darkCost_mv (h : Rel D M) (hv : MV D C N) (hC : ∀ j, j < D 0 1 → C j ≤ 20) : f_Mo_darkCost N = some (mnK (dmO D C), N) := by
  have hfr := h.fr'
  have hnc := h.1.2.1
  have hpl : ∀ s, prc C (D 0 1) s ≤ 160 := fun s => by
    have := prc_le (c := C) s (D 0 1) hC
    omega
  have hdm := dmo_ok D C (2 ^ D 0 1)
  have hsc := scn_ok (dcd D C) (frN (D 0 1) (D (10 + D 7 0) 1) + 1)
  unfold f_Mo_darkCost f_Mo_cheapestFor
  have hc := cheapest_mv h hv hC
  rw [nI_0] at hc
  rw [hc, bnd_s, bnd_s]
  cases hs : scn (dcd D C) (frN (D 0 1) (D (10 + D 7 0) 1) + 1) with
  | none =>
    rw [if_neg bp_none]
    rw [hs] at hsc
    have : dmO D C = none := by
      refine hdm.uni (o' := none) (fun m q => ?_)
      obtain ⟨s, h1, h2, h3⟩ := q
      have hd := (drk_iff h s).mp ⟨h1, h2⟩
      refine hsc (nI (prc C (D 0 1) s * 16 + pc s)) s ⟨by have := sub_le hd.1; omega, ?_⟩
      unfold dcd
      rw [if_pos hd]
    rw [this]; rfl
  | some q =>
    obtain ⟨x, p⟩ := q
    have hp := scn_in hs
    have hpd := dcd_some hp.2
    rw [hs] at hsc
    have hdp := (drk_iff h p).mpr hpd.1
    have : dmO D C = some (prc C (D 0 1) p) := by
      refine hdm.uni ⟨⟨p, hdp.1, hdp.2, rfl⟩, fun m' q => ?_⟩
      obtain ⟨s, h1, h2, rfl⟩ := q
      have hd := (drk_iff h s).mp ⟨h1, h2⟩
      have hl := hsc.2 (nI (prc C (D 0 1) s * 16 + pc s)) s ⟨by have := sub_le hd.1; omega, by unfold dcd; rw [if_pos hd]⟩
      have l1 := pc_le s
      have l2 := pc_le p
      have e1 := hpl s
      have e2 := hpl p
      unfold lxl at hl
      rw [hpd.2] at hl
      have hle : prc C (D 0 1) p * 16 + pc p ≤ prc C (D 0 1) s * 16 + pc s := by
        rcases hl with hl | ⟨hl, -⟩
        · have := (nI_ltI (by omega) (by omega)).mp hl; omega
        · have := (nI_eq (by omega) (by omega)).mp hl; omega
      omega
    rw [if_pos (bp_some (s := x) (by omega)), this]
    show bnd (f_Mo_costOf (nI p) N) _ = _
    rw [costOf_mv h hv (by omega), bnd_s]
    rfl
end MVS
/-- the costs of two cords exchanged in the reference's row -/
def swM (M : AM) (a b : Nat) : AM := sI (sI M 122 a (gI M 122 b)) 122 b (gI M 122 a)
theorem swM_I (M : AM) {a b : Nat} (hab : a ≠ b) (c k : Nat) : gI (swM M a b) c k = if c = 122 ∧ k = a then gI M 122 b else if c = 122 ∧ k = b then gI M 122 a else gI M c k := by
  unfold swM
  rw [gI_sI, gI_sI]
  by_cases h1 : c = 122 ∧ k = b
  · rw [if_pos h1, if_neg (by omega), if_pos h1]
  · rw [if_neg h1]
    by_cases h2 : c = 122 ∧ k = a
    · rw [if_pos h2, if_pos h2]
    · rw [if_neg h2, if_neg h2, if_neg h1]
theorem exchangeCosts_ok (M : AM) {a b : Nat} (ha : a < 8) (hb : b < 8) : f_Mo_exchangeCosts (nI a) (nI b) M = some ((), swM M a b) := by
  unfold f_Mo_exchangeCosts
  rw [ald_nI ha (by decide), ald_nI hb (by decide), ast_nI ha (by decide), ast_nI hb (by decide)]
  rfl
theorem swM_mv {D : DT} {M : AM} (h : Rel D M) {a b : Nat} (hab : a < b) (hb : b < D 0 1) : MV D (swp (D 4) a b) (swM M a b) := by
  obtain ⟨m1, m2, m3⟩ := h.mv
  refine ⟨by rw [swM_I _ (by omega), if_neg (by omega), if_neg (by omega)]; exact m1, fun i hi => by rw [swM_I _ (by omega), if_neg (by omega), if_neg (by omega)]; exact m2 i hi, fun c hc => ⟨by rw [swM_I _ (by omega), if_neg (by omega), if_neg (by omega)]; exact (m3 c hc).1, ?_⟩⟩
  rw [swM_I _ (by omega)]
  unfold swp
  by_cases e1 : c = a
  · rw [if_pos ⟨rfl, e1⟩, if_pos e1]; exact (m3 b hb).2
  · rw [if_neg (fun q => e1 q.2), if_neg e1]
    by_cases e2 : c = b
    · rw [if_pos ⟨rfl, e2⟩, if_pos e2]; exact (m3 a (by omega)).2
    · rw [if_neg (fun q => e2 q.2), if_neg e2]; exact (m3 c hc).2
theorem swM_sm {M N : AM} (hN : Sm M N) {a b : Nat} (hab : a < b) : Sm M (swM (swM N a b) a b) := by
  refine ⟨fun c k => hN.1 c k, fun c k q => ?_⟩
  rw [swM_I _ (by omega), swM_I _ (by omega), swM_I _ (by omega), swM_I _ (by omega)]
  rw [← hN.2 c k q]
  by_cases e1 : c = 122 ∧ k = a
  · rw [if_pos e1, if_neg (by omega), if_pos ⟨rfl, rfl⟩, e1.1, e1.2]
  · rw [if_neg e1]
    by_cases e2 : c = 122 ∧ k = b
    · rw [if_pos e2, if_pos ⟨rfl, rfl⟩, e2.1, e2.2]
    · rw [if_neg e2, if_neg e1, if_neg e2]
/-- the reference's three numbers -/
def xst (D : DT) (o : Option (Int32 × Nat)) : Int32 × Int32 × Int32 := match o with
  | none => (-1, -1, mnK (dmO D (D 4)))
  | some q => (nI (q.2 / 8), nI (q.2 % 8), q.1)
theorem xcd_lt {D : DT} {w : Nat} {s : Int32} (h : xcd D w = some s) : ∃ m m0, (w / 8 < w % 8 ∧ w % 8 < D 0 1) ∧ dmO D (swp (D 4) (w / 8) (w % 8)) = some m ∧ dmO D (D 4) = some m0 ∧ m < m0 ∧ s = nI m := by
  unfold xcd at h
  by_cases q : w / 8 < w % 8 ∧ w % 8 < D 0 1
  · rw [if_pos q] at h
    cases h1 : dmO D (swp (D 4) (w / 8) (w % 8)) with
    | none => rw [h1] at h; cases h
    | some m =>
      cases h0 : dmO D (D 4) with
      | none => rw [h1, h0] at h; cases h
      | some m0 =>
        rw [h1, h0] at h
        by_cases hm : m < m0
        · have h' : (if m < m0 then some (nI m) else none) = some s := h
          rw [if_pos hm] at h'
          cases h'
          exact ⟨m, m0, q, rfl, rfl, hm, rfl⟩
        · have h' : (if m < m0 then some (nI m) else none) = some s := h
          rw [if_neg hm] at h'
          cases h'
  · rw [if_neg q] at h; cases h
theorem Mo_exchangeL {D : DT} {M : AM} (h : Rel D M) (w : Int32) : ∃ M1, f_Mo_exchange_l24 w fu (-1) (-1) (mnK (dmO D (D 4))) 0 M = some (xst D (scn (xcd D) 64), M1) ∧ Sm M M1 := by
  have hnc := h.1.2.1
  have hC : ∀ j, j < D 0 1 → D 4 j ≤ 20 := fun j hj => (h.1.2.2.2.2.2.2.2.1 j hj).2
  have hn6 : ∀ N, Sm M N → gI N 105 42 = nI (D 0 1) := fun N hN => (h.sm hN).2.2.2.2.2.1.1.2.2.1
  have inner : ∀ a N, a < D 0 1 → Sm M N → ∃ N', f_Mo_exchange_l39 w (nI a) fu (xst D (scn (xcd D) (a * 8))).1 (xst D (scn (xcd D) (a * 8))).2.1 (xst D (scn (xcd D) (a * 8))).2.2 (nI (a + 1)) N = some (xst D (scn (xcd D) ((a + 1) * 8)), N') ∧ Sm M N' := by
    intro a N ha hN
    have hst : scn (xcd D) (a * 8 + (a + 1)) = scn (xcd D) (a * 8) := scn_skip' (by omega) (fun k e1 e2 => xcd_no (by omega))
    have hen : scn (xcd D) ((a + 1) * 8) = scn (xcd D) (a * 8 + D 0 1) := scn_skip' (by omega) (fun k e1 e2 => xcd_no (by omega))
    have key : ∃ o, f_Mo_exchange_l39 w (nI a) fu (xst D (scn (xcd D) (a * 8))).1 (xst D (scn (xcd D) (a * 8))).2.1 (xst D (scn (xcd D) (a * 8))).2.2 (nI (a + 1)) N = some o ∧ (o.1 = xst D (scn (xcd D) ((a + 1) * 8)) ∧ Sm M o.2) := by
      refine for_inv (fun z (s : (Int32 × Int32 × Int32) × Int32 × AM) => f_Mo_exchange_l39 w (nI a) z s.1.1 s.1.2.1 s.1.2.2 s.2.1 s.2.2) (fun b s => s.1 = xst D (scn (xcd D) (a * 8 + b)) ∧ s.2.1 = nI b ∧ a < b ∧ Sm M s.2.2) (D 0 1) _ (fun b s z hk hI => ?_) (fun s z hI => ?_) (D 0 1 - (a + 1)) (a + 1) (xst D (scn (xcd D) (a * 8)), nI (a + 1), N) fu (by omega) (by rw [fu_eq]; omega) ⟨by rw [hst], rfl, by omega, hN⟩
      · obtain ⟨v, v2, K⟩ := s
        obtain ⟨rfl, rfl, i0, i1⟩ := hI
        simp only at i1
        left
        have hR := h.sm i1
        have hx := xcd_at i0 hk hnc
        have hdk := darkCost_mv h (swM_mv hR i0 hk) (swp_le (a := a) (b := b) (by omega) hk hC)
        have hsm2 := swM_sm i1 i0
        have hbod : ∀ x y t, f_Mo_exchange_l39 w (nI a) (z + 1) x y t (nI b) K = if mnK (dmO D (swp (D 4) a b)) < t then f_Mo_exchange_l39 w (nI a) z (nI a) (nI b) (mnK (dmO D (swp (D 4) a b))) (nI (b + 1)) (swM (swM K a b) a b) else f_Mo_exchange_l39 w (nI a) z x y t (nI (b + 1)) (swM (swM K a b) a b) := by
          intro x y t
          show f_Mo_exchange_b39 (f_Mo_exchange_l39 w (nI a) z) w (nI a) x y t (nI b) K = _
          unfold f_Mo_exchange_b39
          rw [hn6 K i1, if_neg (nI_ge hk (by omega)), exchangeCosts_ok K (by omega) (by omega), bnd_s, hdk, bnd_s, exchangeCosts_ok _ (by omega) (by omega), bnd_s, nI_1]
        refine ⟨(xst D (scn (xcd D) (a * 8 + (b + 1))), nI (b + 1), swM (swM K a b) a b), ⟨rfl, rfl, by omega, hsm2⟩, ?_⟩
        show f_Mo_exchange_l39 w (nI a) (z + 1) (xst D (scn (xcd D) (a * 8 + b))).1 (xst D (scn (xcd D) (a * 8 + b))).2.1 (xst D (scn (xcd D) (a * 8 + b))).2.2 (nI b) K = f_Mo_exchange_l39 w (nI a) z (xst D (scn (xcd D) (a * 8 + (b + 1)))).1 (xst D (scn (xcd D) (a * 8 + (b + 1)))).2.1 (xst D (scn (xcd D) (a * 8 + (b + 1)))).2.2 (nI (b + 1)) (swM (swM K a b) a b)
        rw [hbod, ← Nat.add_assoc]
        have hab8 := code8 (a := a) (show b < 8 by omega)
        cases h0 : dmO D (D 4) with
        | none =>
          have h1 : dmO D (swp (D 4) a b) = none := dmO_none h0
          have hall : ∀ k, scn (xcd D) k = none := fun k => by
            cases hq : scn (xcd D) k with
            | none => rfl
            | some q =>
              obtain ⟨s, p⟩ := q
              obtain ⟨m, m0, -, -, e, -⟩ := xcd_lt (scn_in hq).2
              rw [h0] at e; cases e
          rw [hall, hall, h1]
          show (if mnK none < mnK (dmO D (D 4)) then _ else _) = _
          rw [h0, if_neg (by decide)]
        | some m0 =>
          obtain ⟨m, h1⟩ := dmO_some (C' := swp (D 4) a b) h0
          have l0 := dmo_lt hC hnc (k := 2 ^ D 0 1) h0
          have l1 := dmo_lt (swp_le (a := a) (b := b) (by omega) hk hC) hnc (k := 2 ^ D 0 1) h1
          have hx2 : xcd D (a * 8 + b) = if m < m0 then some (nI m) else none := by rw [hx, h0, h1]
          rw [h1]
          cases hs : scn (xcd D) (a * 8 + b) with
          | none =>
            show (if nI m < mnK (dmO D (D 4)) then f_Mo_exchange_l39 w (nI a) z (nI a) (nI b) (nI m) (nI (b + 1)) _ else f_Mo_exchange_l39 w (nI a) z (-1) (-1) (mnK (dmO D (D 4))) (nI (b + 1)) _) = _
            rw [h0]
            show (if nI m < nI m0 then _ else _) = _
            by_cases hm : m < m0
            · rw [if_pos hm] at hx2
              rw [if_pos (nI_lt hm (by omega)), scn_0 hx2 hs]
              show _ = f_Mo_exchange_l39 w (nI a) z (nI ((a * 8 + b) / 8)) (nI ((a * 8 + b) % 8)) (nI m) (nI (b + 1)) _
              rw [hab8.1, hab8.2]
            · rw [if_neg hm] at hx2
              rw [if_neg (nI_nlt (by omega) (by omega)), scn_n hx2, hs]
              show _ = f_Mo_exchange_l39 w (nI a) z (-1) (-1) (mnK (dmO D (D 4))) (nI (b + 1)) _
              rw [h0]
          | some q =>
            obtain ⟨s, p⟩ := q
            obtain ⟨m2, m02, -, -, e1, e2, rfl⟩ := xcd_lt (scn_in hs).2
            rw [h0] at e1
            cases e1
            show (if nI m < nI m2 then f_Mo_exchange_l39 w (nI a) z (nI a) (nI b) (nI m) (nI (b + 1)) _ else f_Mo_exchange_l39 w (nI a) z (nI (p / 8)) (nI (p % 8)) (nI m2) (nI (b + 1)) _) = _
            by_cases hm : m < m0
            · rw [if_pos hm] at hx2
              rw [scn_1 hx2 hs]
              by_cases hm2 : m < m2
              · rw [if_pos (nI_lt hm2 (by omega)), if_pos (nI_lt hm2 (by omega))]
                show _ = f_Mo_exchange_l39 w (nI a) z (nI ((a * 8 + b) / 8)) (nI ((a * 8 + b) % 8)) (nI m) (nI (b + 1)) _
                rw [hab8.1, hab8.2]
              · rw [if_neg (nI_nlt (by omega) (by omega)), if_neg (nI_nlt (by omega) (by omega))]
                rfl
            · rw [if_neg hm] at hx2
              rw [scn_n hx2, hs, if_neg (nI_nlt (by omega) (by omega))]
              rfl
      · obtain ⟨v, v2, K⟩ := s
        obtain ⟨rfl, rfl, i0, i1⟩ := hI
        simp only at i1
        refine ⟨(xst D (scn (xcd D) (a * 8 + D 0 1)), K), ?_, by rw [hen], i1⟩
        show f_Mo_exchange_b39 (f_Mo_exchange_l39 w (nI a) z) w (nI a) (xst D (scn (xcd D) (a * 8 + D 0 1))).1 (xst D (scn (xcd D) (a * 8 + D 0 1))).2.1 (xst D (scn (xcd D) (a * 8 + D 0 1))).2.2 (nI (D 0 1)) K = _
        unfold f_Mo_exchange_b39
        rw [hn6 K i1, if_pos (nI_le (Nat.le_refl _) (by omega))]
    obtain ⟨⟨u, N'⟩, q1, q2, q3⟩ := key
    simp only at q2
    exact ⟨N', by rw [q1, q2], q3⟩
  have hen : scn (xcd D) 64 = scn (xcd D) (D 0 1 * 8) := scn_skip' (by omega) (fun k e1 e2 => xcd_no (by omega))
  have outer : ∃ o, f_Mo_exchange_l24 w fu (-1) (-1) (mnK (dmO D (D 4))) 0 M = some o ∧ (o.1 = xst D (scn (xcd D) 64) ∧ Sm M o.2) := by
    refine for_inv (fun z (s : (Int32 × Int32 × Int32) × Int32 × AM) => f_Mo_exchange_l24 w z s.1.1 s.1.2.1 s.1.2.2 s.2.1 s.2.2) (fun a s => s.1 = xst D (scn (xcd D) (a * 8)) ∧ s.2.1 = nI a ∧ Sm M s.2.2) (D 0 1) _ (fun a s z hk hI => ?_) (fun s z hI => ?_) (D 0 1) 0 ((-1, -1, mnK (dmO D (D 4))), 0, M) fu (by omega) (by rw [fu_eq]; omega) ⟨rfl, rfl, Sm.rfl'⟩
    · obtain ⟨v, v2, K⟩ := s
      obtain ⟨rfl, rfl, i1⟩ := hI
      simp only at i1
      left
      obtain ⟨K', q1, q2⟩ := inner a K hk i1
      refine ⟨(xst D (scn (xcd D) ((a + 1) * 8)), nI (a + 1), K'), ⟨rfl, rfl, q2⟩, ?_⟩
      show f_Mo_exchange_b24 (f_Mo_exchange_l24 w z) w (xst D (scn (xcd D) (a * 8))).1 (xst D (scn (xcd D) (a * 8))).2.1 (xst D (scn (xcd D) (a * 8))).2.2 (nI a) K = _
      unfold f_Mo_exchange_b24
      rw [hn6 K i1, if_neg (nI_ge hk (by omega)), nI_1, q1, bnd_s]
    · obtain ⟨v, v2, K⟩ := s
      obtain ⟨rfl, rfl, i1⟩ := hI
      simp only at i1
      refine ⟨(xst D (scn (xcd D) (D 0 1 * 8)), K), ?_, by rw [hen], i1⟩
      show f_Mo_exchange_b24 (f_Mo_exchange_l24 w z) w (xst D (scn (xcd D) (D 0 1 * 8))).1 (xst D (scn (xcd D) (D 0 1 * 8))).2.1 (xst D (scn (xcd D) (D 0 1 * 8))).2.2 (nI (D 0 1)) K = _
      unfold f_Mo_exchange_b24
      rw [hn6 K i1, if_pos (nI_le (Nat.le_refl _) (by omega))]
  obtain ⟨⟨u, M1⟩, q1, q2, q3⟩ := outer
  simp only at q2
  exact ⟨M1, by rw [q1, q2], q3⟩
def xan (a : Int32) : Option (Int32 × Nat) → Int32
  | none => -1
  | some q => if a = 0 then nI (q.2 / 8) else if a = 1 then nI (q.2 % 8) else q.1
theorem B_exchange (a : Int32) : Both (f_C_exchange a) (f_Mo_exchange a) := by
  rcases in_cases a 3 (by decide) with ⟨j, hj, rfl⟩ | ho
  · refine Both.of (fun D => xan (nI j) (scn (xcd D) 64)) (fun D M h => ?_) (fun D M h => ?_)
    · obtain ⟨M1, k1, k2, k3⟩ := bestExchange_ok h
      refine ⟨M1, ?_, k3⟩
      unfold f_C_exchange
      rw [if_neg (nI_pos (by omega)), if_pos (show nI j ≤ 2 from nI_le (b := 2) (by omega) (by decide)), ckK_eq (pl_kd h), cur_ok h, bnd_s, k1, bnd_s]
      cases hs : scn (xcd D) 64 with
      | none => rw [if_neg bp_none]; rfl
      | some q =>
        obtain ⟨s, p⟩ := q
        have hp := (scn_in hs).1
        rw [if_pos (bp_some (s := s) (by omega)), k2 _ hs]
        show (if nI j = 2 then some (s, M1) else bnd (f_C_either (nI j) (nI p / 8) (nI p % 8) M1) _) = some (if nI j = 0 then nI (p / 8) else if nI j = 1 then nI (p % 8) else s, M1)
        rw [either_eq, bnd_s, nI_lit 8, pk_div (by omega) (by decide) (by decide), nx_mod (by omega) (by decide) (by decide)]
        rcases (show j = 0 ∨ j = 1 ∨ j = 2 by omega) with rfl | rfl | rfl
        · rw [if_neg (show ¬ nI 0 = 2 by decide), if_pos (show nI 0 = 0 from rfl), if_pos (show nI 0 = 0 from rfl)]
        · rw [if_neg (show ¬ nI 1 = 2 by decide), if_neg (show ¬ nI 1 = 0 by decide), if_pos (show nI 1 = 1 from rfl), if_neg (show ¬ nI 1 = 0 by decide), if_pos (show nI 1 = 1 from rfl)]
        · rw [if_pos (show nI 2 = 2 from rfl), if_neg (show ¬ nI 2 = 0 by decide), if_neg (show ¬ nI 2 = 1 by decide)]
    · obtain ⟨M1, k1, k2⟩ := Mo_exchangeL h (nI j)
      refine ⟨M1, ?_, k2⟩
      unfold f_Mo_exchange
      rw [show (2 : Int32) = nI 3 - 1 from by decide, isIn_in hj (by decide), bnd_s, if_neg (by decide), darkCost_mv h h.mv (fun j hj => (h.1.2.2.2.2.2.2.2.1 j hj).2), bnd_s, k1, bnd_s]
      cases hs : scn (xcd D) 64 with
      | none => rfl
      | some q =>
        obtain ⟨s, p⟩ := q
        have hp := (scn_in hs).1
        show (if 0 ≤ nI (p / 8) then (if nI j = 0 then some (nI (p / 8), M1) else if nI j = 1 then some (nI (p % 8), M1) else some (s, M1)) else some (-1, M1)) = some (if nI j = 0 then nI (p / 8) else if nI j = 1 then nI (p % 8) else s, M1)
        rw [if_pos (nI_pos' (by omega))]
        rcases (show j = 0 ∨ j = 1 ∨ j = 2 by omega) with rfl | rfl | rfl
        · rw [if_pos (show nI 0 = 0 from rfl), if_pos (show nI 0 = 0 from rfl)]
        · rw [if_neg (show ¬ nI 1 = 0 by decide), if_pos (show nI 1 = 1 from rfl), if_neg (show ¬ nI 1 = 0 by decide), if_pos (show nI 1 = 1 from rfl)]
        · rw [if_neg (show ¬ nI 2 = 0 by decide), if_neg (show ¬ nI 2 = 1 by decide), if_neg (show ¬ nI 2 = 0 by decide), if_neg (show ¬ nI 2 = 1 by decide)]
  · refine Both.pure fun D M h => ⟨-1, ?_, ?_⟩
    · unfold f_C_exchange
      by_cases hneg : a < 0
      · rw [if_pos hneg]
      · rw [if_neg hneg, if_neg]
        have h2 := ho.resolve_left hneg
        rw [Int32.le_iff_toInt_le] at h2 ⊢
        have e1 : (nI 3).toInt = 3 := by decide
        have e2 : (2 : Int32).toInt = 2 := by decide
        omega
    · unfold f_Mo_exchange
      rw [show (2 : Int32) = nI 3 - 1 from by decide, isIn_out ho (by decide), bnd_s, if_pos rfl]
