theorem cheapestForC_ok {D : DT} {M : AM} (h : Rel D M) (a : Int32) : ∃ o M1, IB (SX D (shw D a) (fun s => nI (prc (D 4) (D 0 1) s * 16 + pc s))) o ∧ f_Sets_cheapestFor (gR M 0 3) (gR M 39 (D 7 0)) a M = some (bp o, M1) ∧ Sm M M1 := by
  obtain ⟨M0, c1, c2, c3⟩ := clear_ok M
  have h256 := p2_le h.1.2.1
  have h0 := p2_pos (D 0 1)
  have key := setsC h (f_Sets_cheapestFor_l10 (gR M 0 3) (gR M 39 (D 7 0)) a) 0 (Nat.zero_le _) (shw D a) (fun k => inferInstanceAs (Decidable (nI (D (10 + D 7 0) 0 ^^^ xt (D 3) (D 0 1) k) = a))) (fun s => nI (prc (D 4) (D 0 1) s * 16 + pc s)) (fun s => s % 2 ^ 31) (fun k => Nat.mod_lt _ (by decide)) c3 c2
  have hgr : ∀ N, Sm M N → gR N 0 3 = gR M 0 3 := fun N hN => hN.1 0 3
  generalize gR M 0 3 = p at *
  generalize gR M 39 (D 7 0) = r at *
  obtain ⟨o, M1, k1, k2, k3, k4⟩ := key
    (fun k z N h1 h2 hN hv hR hc => by
      obtain ⟨v1, v2, v3, v4, v5, v6, v7⟩ := hv
      show f_Sets_cheapestFor_b10 (f_Sets_cheapestFor_l10 p r a z) p r a (nI k) N = _
      unfold f_Sets_cheapestFor_b10
      rw [v1, bnd_s, if_neg (sets_go (by omega) h2), v3, ald_nI (by omega) (by decide), v4 k h2, v2, nx_xor, nI_1]
      by_cases hb : k &&& D (10 + D 7 0) 1 = 0
      · rw [if_pos ((and_zero_I (by omega)).mpr hb), if_neg (fun q : nI (D (10 + D 7 0) 0 ^^^ xt (D 3) (D 0 1) k) = a => hc ⟨hb, q⟩)]
      · rw [if_neg (fun q => hb ((and_zero_I (by omega)).mp q))])
    (fun k z N h1 h2 hN hv hR hb hA => by
      obtain ⟨v1, v2, v3, v4, v5, v6, v7⟩ := hv
      have hpr := priceOf_ok hR (s := k) (by omega)
      rw [hgr N hN] at hpr
      show f_Sets_cheapestFor_b10 (f_Sets_cheapestFor_l10 p r a z) p r a (nI k) N = _
      unfold f_Sets_cheapestFor_b10
      rw [v1, bnd_s, if_neg (sets_go (by omega) h2), v3, ald_nI (by omega) (by decide), v4 k h2, v2, nx_xor, nI_1, if_pos ((and_zero_I (by omega)).mpr hb), if_pos (show nI (D (10 + D 7 0) 0 ^^^ xt (D 3) (D 0 1) k) = a from hA), hpr, bnd_s, bc_ok (by omega), bnd_s, nI_lit 16, pk_mul, nI_add, Nat.mod_eq_of_lt (by omega)])
    (fun z N hN hv hR => by
      obtain ⟨v1, v2, v3, v4, v5, v6, v7⟩ := hv
      show f_Sets_cheapestFor_b10 (f_Sets_cheapestFor_l10 p r a z) p r a (nI (2 ^ D 0 1)) N = _
      unfold f_Sets_cheapestFor_b10
      rw [v1, bnd_s, if_pos (sets_stop (by omega) h0)])
  refine ⟨o, M1, k1.ext (fun s q => ⟨?_, ?_⟩), ?_, k4⟩
  · rintro ⟨k, -, x2, x3, x4, rfl, rfl⟩
    rw [Nat.mod_eq_of_lt (by omega)]
    exact ⟨x2, x3, x4, rfl⟩
  · rintro ⟨x2, x3, x4, rfl⟩
    exact ⟨q, Nat.zero_le _, x2, x3, x4, rfl, (Nat.mod_eq_of_lt (by omega)).symm⟩
  · unfold f_Sets_cheapestFor
    rw [c1, bnd_s]
    rw [nI_0] at k3
    rw [k3, bnd_s, k2.1]
theorem prc_160 {D : DT} (ho : okP D) (s : Nat) : prc (D 4) (D 0 1) s ≤ 160 := by
  have := prc_le (c := D 4) s (D 0 1) (fun j hj => (ho.2.2.2.2.2.2.2.1 j hj).2)
  have := ho.2.1
  omega
theorem cheapestForM_ok {D : DT} {M : AM} (h : Rel D M) (a : Int32) : ∃ o M1, IB (SX D (shw D a) (fun s => nI (prc (D 4) (D 0 1) s * 16 + pc s))) o ∧ f_Mo_cheapestFor_l4 a fu (-1) (nI 0) M = some (bp o, M1) ∧ Sm M M1 := by
  have hfr := h.fr'
  have hb : ∀ z v2 k N, Rel D N → k ≤ frN (D 0 1) (D (10 + D 7 0) 1) → f_Mo_cheapestFor_l4 a (z + 1) v2 (nI k) N = if k &&& frN (D 0 1) (D (10 + D 7 0) 1) = k then (if nI (D (10 + D 7 0) 0 ^^^ xt (D 3) (D 0 1) k) = a then (if v2 < 0 then f_Mo_cheapestFor_l4 a z (nI k) (nI (k + 1)) N else bnd (f_Mo_costOf v2 N) (fun r12 M13 => if nI (prc (D 4) (D 0 1) k) < r12 then f_Mo_cheapestFor_l4 a z (nI k) (nI (k + 1)) M13 else bnd (f_Mo_costOf (nI k) M13) (fun r14 M15 => bnd (f_Mo_costOf v2 M15) (fun r16 M17 => if r14 = r16 then bnd (f_Mo_members (nI k) M17) (fun r18 M19 => bnd (f_Mo_members v2 M19) (fun r20 M21 => if r20 ≤ r18 then f_Mo_cheapestFor_l4 a z v2 (nI (k + 1)) M21 else f_Mo_cheapestFor_l4 a z (nI k) (nI (k + 1)) M21)) else f_Mo_cheapestFor_l4 a z v2 (nI (k + 1)) M17)))) else f_Mo_cheapestFor_l4 a z v2 (nI (k + 1)) N) else f_Mo_cheapestFor_l4 a z v2 (nI (k + 1)) N := by
    intro z v2 k N hN hk
    show f_Mo_cheapestFor_b4 (f_Mo_cheapestFor_l4 a z) a v2 (nI k) N = _
    unfold f_Mo_cheapestFor_b4
    rw [Mo_free_ok hN, bnd_s, if_neg (nI_nlt hk (by omega)), Mo_free_ok hN, bnd_s, isWithin_ok (by omega) hfr, bnd_s, now_ald hN 0 0 rfl (by decide), turnedBy_ok hN (by omega), bnd_s, nx_xor, costOf_ok hN (by omega), bnd_s, nI_1]
    by_cases q : k &&& frN (D 0 1) (D (10 + D 7 0) 1) = k
    · rw [if_pos q, if_neg (by decide), if_pos q]
    · rw [if_neg q, if_pos rfl, if_neg q]
  refine setsM h (f_Mo_cheapestFor_l4 a) 0 (by omega) (shw D a) (fun k => inferInstanceAs (Decidable (nI (D (10 + D 7 0) 0 ^^^ xt (D 3) (D 0 1) k) = a))) (fun q => absurd q (by decide)) (fun s => nI (prc (D 4) (D 0 1) s * 16 + pc s)) (fun k z N v2 hik hk hN hc => ?_) (fun k z N hik hk hN h1 h2 => ?_) (fun k z N p0 hik hk hN h1 h2 hp => ?_) (fun z N v2 hN => ?_)
  · rw [hb z v2 k N hN hk]
    by_cases q : k &&& frN (D 0 1) (D (10 + D 7 0) 1) = k
    · rw [if_pos q, if_neg (fun w : nI (D (10 + D 7 0) 0 ^^^ xt (D 3) (D 0 1) k) = a => hc ⟨q, w⟩)]
    · rw [if_neg q]
  · rw [hb z (-1) k N hN hk, if_pos h1, if_pos (show nI (D (10 + D 7 0) 0 ^^^ xt (D 3) (D 0 1) k) = a from h2), if_pos (by decide)]
  · have e1 := prc_160 h.1 k
    have e2 := prc_160 h.1 p0
    have l1 := pc_le k
    have l2 := pc_le p0
    rw [hb z (nI p0) k N hN hk, if_pos h1, if_pos (show nI (D (10 + D 7 0) 0 ^^^ xt (D 3) (D 0 1) k) = a from h2), if_neg (nI_pos (by omega)), costOf_ok hN (by omega), bnd_s, costOf_ok hN (by omega), bnd_s, costOf_ok hN (by omega), bnd_s, members_ok (by omega), bnd_s, members_ok (by omega), bnd_s]
    by_cases q1 : prc (D 4) (D 0 1) k < prc (D 4) (D 0 1) p0
    · rw [if_pos (nI_lt q1 (by omega)), if_pos (nI_lt (by omega) (by omega))]
    · rw [if_neg (nI_nlt (by omega) (by omega))]
      by_cases q2 : prc (D 4) (D 0 1) k = prc (D 4) (D 0 1) p0
      · rw [if_pos (by rw [q2])]
        by_cases q3 : pc p0 ≤ pc k
        · rw [if_pos (nI_le q3 (by omega)), if_neg (nI_nlt (by omega) (by omega))]
        · rw [if_neg (nI_ge (by omega) (by omega)), if_pos (nI_lt (by omega) (by omega))]
      · rw [if_neg (fun w => q2 ((nI_eq (by omega) (by omega)).mp w)), if_neg (nI_nlt (by omega) (by omega))]
  · show f_Mo_cheapestFor_b4 (f_Mo_cheapestFor_l4 a z) a v2 (nI (frN (D 0 1) (D (10 + D 7 0) 1) + 1)) N = _
    unfold f_Mo_cheapestFor_b4
    rw [Mo_free_ok hN, bnd_s, if_pos (nI_lt (by omega) (by omega))]
theorem B_cheapest (a b : Int32) : Both (f_C_cheapest a b) (f_Mo_cheapest a b) := by
  refine Both.uni (fun D o => IB (SX D (shw D a) (fun s => nI (prc (D 4) (D 0 1) s * 16 + pc s))) o) (fun D o => an2 b (fun s => nI (prc (D 4) (D 0 1) s)) o) (fun D o o' => IB.uni) (fun D M h => ?_) (fun D M h => ?_)
  · have h256 := p2_le h.1.2.1
    obtain ⟨o, M1, k1, k2, k3⟩ := cheapestForC_ok h a
    refine ⟨o, M1, k1, ?_, k3⟩
    unfold f_C_cheapest
    rw [ckK_eq (pl_kd h), cur_ok h, bnd_s, k2, bnd_s]
    cases o with
    | none => rw [if_neg bp_none]; rfl
    | some q =>
      have hq : q.2 < 256 := Nat.lt_of_lt_of_le k1.1.1 h256
      rw [if_pos (bp_some (s := q.1) (by omega)), ckK_eq (pl_kd (h.sm k3))]
      show bnd (f_Plan_priceOf (gR M1 0 3) (nI q.2) M1) _ = _
      rw [priceOf_ok (h.sm k3) (by omega), bnd_s]
      show bnd (f_C_either b (nI (prc (D 4) (D 0 1) q.2)) (nI q.2) M1) _ = _
      rw [either_eq, bnd_s]
      rfl
  · have h256 := p2_le h.1.1
    have h256c := p2_le h.1.2.1
    have hx : ∀ s, xt (D 3) (D 0 1) s < 2 ^ D 0 0 := fun s => xt_lt h.1 s _ (Nat.le_refl _)
    have hpic := h.pic
    unfold f_Mo_cheapest
    rcases in_cases a (2 ^ D 0 0) (by omega) with ⟨j, hj, rfl⟩ | ho
    · rw [isPicture_in h hj, bnd_s, if_neg (by decide), isIn01, bnd_s]
      by_cases h01 : b = 0 ∨ b = 1
      · obtain ⟨o, M1, k1, k2, k3⟩ := cheapestForM_ok h (nI j)
        refine ⟨o, M1, k1, ?_, k3⟩
        unfold f_Mo_cheapestFor
        rw [if_pos h01, if_neg (by decide), show f_Mo_cheapestFor_l4 (nI j) fu (-1) 0 M = f_Mo_cheapestFor_l4 (nI j) fu (-1) (nI 0) M from rfl, k2, bnd_s, bnd_s]
        cases o with
        | none => rw [if_neg bp_none]; rfl
        | some q =>
          have hq : q.2 < 256 := Nat.lt_of_lt_of_le k1.1.1 h256c
          rw [if_pos (bp_some (s := q.1) (by omega))]
          show (if b = 0 then bnd (f_Mo_costOf (nI q.2) M1) _ else some (nI q.2, M1)) = some (if b = 0 then nI (prc (D 4) (D 0 1) q.2) else if b = 1 then nI q.2 else -1, M1)
          rw [costOf_ok (h.sm k3) (by omega), bnd_s]
          by_cases h0 : b = 0
          · rw [if_pos h0, if_pos h0]
          · rw [if_neg h0, if_neg h0, if_pos (h01.resolve_left h0)]
      · obtain ⟨o, ho⟩ := SX_ex (D := D) (shw D (nI j)) (fun k => inferInstanceAs (Decidable (nI (D (10 + D 7 0) 0 ^^^ xt (D 3) (D 0 1) k) = nI j))) (fun s => nI (prc (D 4) (D 0 1) s * 16 + pc s))
        refine ⟨o, M, ho, ?_, Sm.rfl'⟩
        rw [if_neg h01, if_pos rfl]
        cases o with
        | none => rfl
        | some q =>
          show _ = some (if b = 0 then nI (prc (D 4) (D 0 1) q.2) else if b = 1 then nI q.2 else -1, M)
          rw [if_neg (fun q => h01 (Or.inl q)), if_neg (fun q => h01 (Or.inr q))]
    · refine ⟨none, M, fun s p q => ?_, by rw [isPicture_out h ho, bnd_s, if_pos rfl]; rfl, Sm.rfl'⟩
      have q3 : nI (D (10 + D 7 0) 0 ^^^ xt (D 3) (D 0 1) p) = a := q.2.2.1
      have hlt := Nat.xor_lt_two_pow hpic (hx p)
      rw [← q3] at ho
      rcases ho with ho | ho
      · exact nI_pos (by omega) ho
      · exact nI_ge hlt (by omega) ho
