theorem leastSilent_ok {D : DT} {M : AM} (h : Rel D M) : ∃ o M1, IB (SX D (fun s => 1 ≤ s ∧ xt (D 3) (D 0 1) s = 0) (fun s => nI (pc s))) o ∧ f_Sets_leastSilent (gR M 0 3) (gR M 39 (D 7 0)) M = some (bp o, M1) ∧ Sm M M1 := by
  obtain ⟨M0, c1, c2, c3⟩ := clear_ok M
  have h256 := p2_le h.1.2.1
  have h256l := p2_le h.1.1
  have h0 := p2_pos (D 0 1)
  have hx : ∀ s, nI (xt (D 3) (D 0 1) s) = 0 ↔ xt (D 3) (D 0 1) s = 0 := fun s => nI_eq (b := 0) (by have := xt_lt h.1 s _ (Nat.le_refl _); omega) (by decide)
  have key := setsC h (f_Sets_leastSilent_l9 (gR M 0 3) (gR M 39 (D 7 0))) 1 (by omega) (fun s => 1 ≤ s ∧ xt (D 3) (D 0 1) s = 0) (fun k => inferInstanceAs (Decidable (_ ∧ _))) (fun s => nI (pc s)) (fun s => s % 2 ^ 31) (fun k => Nat.mod_lt _ (by decide)) c3 c2
  generalize gR M 0 3 = p at *
  generalize gR M 39 (D 7 0) = r at *
  obtain ⟨o, M1, k1, k2, k3, k4⟩ := key
    (fun k z N h1 h2 hN hv hR hc => by
      obtain ⟨v1, v2, v3, v4, v5, v6, v7⟩ := hv
      show f_Sets_leastSilent_b9 (f_Sets_leastSilent_l9 p r z) p r (nI k) N = _
      unfold f_Sets_leastSilent_b9
      rw [v1, bnd_s, if_neg (sets_go (by omega) h2), v3, ald_nI (by omega) (by decide), v4 k h2, nI_1]
      by_cases hb : k &&& D (10 + D 7 0) 1 = 0
      · rw [if_pos ((and_zero_I (by omega)).mpr hb), if_neg (fun q => hc ⟨hb, h1, (hx k).mp q⟩)]
      · rw [if_neg (fun q => hb ((and_zero_I (by omega)).mp q))])
    (fun k z N h1 h2 hN hv hR hb hA => by
      obtain ⟨v1, v2, v3, v4, v5, v6, v7⟩ := hv
      show f_Sets_leastSilent_b9 (f_Sets_leastSilent_l9 p r z) p r (nI k) N = _
      unfold f_Sets_leastSilent_b9
      rw [v1, bnd_s, if_neg (sets_go (by omega) h2), v3, ald_nI (by omega) (by decide), v4 k h2, nI_1, if_pos ((and_zero_I (by omega)).mpr hb), if_pos ((hx k).mpr hA.2), bc_ok (by omega), bnd_s, Nat.mod_eq_of_lt (by omega)])
    (fun z N hN hv hR => by
      obtain ⟨v1, v2, v3, v4, v5, v6, v7⟩ := hv
      show f_Sets_leastSilent_b9 (f_Sets_leastSilent_l9 p r z) p r (nI (2 ^ D 0 1)) N = _
      unfold f_Sets_leastSilent_b9
      rw [v1, bnd_s, if_pos (sets_stop (by omega) h0)])
  refine ⟨o, M1, k1.ext (fun s q => ⟨?_, ?_⟩), ?_, k4⟩
  · rintro ⟨k, -, x2, x3, x4, rfl, rfl⟩
    rw [Nat.mod_eq_of_lt (by omega)]
    exact ⟨x2, x3, x4, rfl⟩
  · rintro ⟨x2, x3, x4, rfl⟩
    exact ⟨q, x4.1, x2, x3, x4, rfl, (Nat.mod_eq_of_lt (by omega)).symm⟩
  · unfold f_Sets_leastSilent
    rw [c1, bnd_s, show f_Sets_leastSilent_l9 p r fu 1 M0 = f_Sets_leastSilent_l9 p r fu (nI 1) M0 from rfl, k3, bnd_s, k2.1]
theorem B_silent (b : Int32) : Both (f_C_silent b) (f_Mo_silent b) := by
  refine Both.uni (fun D o => IB (SX D (fun s => 1 ≤ s ∧ xt (D 3) (D 0 1) s = 0) (fun s => nI (pc s))) o) (fun D o => an2 b (fun s => nI (pc s)) o) (fun D o o' => IB.uni) (fun D M h => ?_) (fun D M h => ?_)
  · have h256 := p2_le h.1.2.1
    obtain ⟨o, M1, k1, k2, k3⟩ := leastSilent_ok h
    refine ⟨o, M1, k1, ?_, k3⟩
    unfold f_C_silent
    rw [ckK_eq (pl_kd h), cur_ok h, bnd_s, k2, bnd_s]
    cases o with
    | none => rw [if_neg bp_none]; rfl
    | some q =>
      have hq : q.2 < 256 := Nat.lt_of_lt_of_le k1.1.1 h256
      rw [if_pos (bp_some (s := q.1) (by omega))]
      show bnd (f_Int_bitCount (nI q.2) M1) _ = _
      rw [bc_ok hq, bnd_s]
      show bnd (f_C_either b (nI (pc q.2)) (nI q.2) M1) _ = _
      rw [either_eq, bnd_s]
      rfl
  · have h256c := p2_le h.1.2.1
    unfold f_Mo_silent
    rw [isIn01, bnd_s]
    by_cases h01 : b = 0 ∨ b = 1
    · obtain ⟨o, M1, k1, k2, k3⟩ := fewestFor_ok h 0 (by decide) 1 (by omega)
      refine ⟨o, M1, k1, ?_, k3⟩
      unfold f_Mo_fewestFor f_Mo_fewestFor_j11
      rw [if_pos h01, if_neg (by decide), if_neg (by decide), show f_Mo_fewestFor_l13 0 fu (-1) 1 M = f_Mo_fewestFor_l13 (nI 0) fu (-1) (nI 1) M from rfl, k2, bnd_s, bnd_s]
      cases o with
      | none => rw [if_neg bp_none]; rfl
      | some q =>
        have hq : q.2 < 256 := Nat.lt_of_lt_of_le k1.1.1 h256c
        rw [if_pos (bp_some (s := q.1) (by omega))]
        show (if b = 0 then bnd (f_Mo_members (nI q.2) M1) _ else some (nI q.2, M1)) = some (if b = 0 then nI (pc q.2) else if b = 1 then nI q.2 else -1, M1)
        rw [members_ok (by omega), bnd_s]
        by_cases h0 : b = 0
        · rw [if_pos h0, if_pos h0]
        · rw [if_neg h0, if_neg h0, if_pos (h01.resolve_left h0)]
    · obtain ⟨o, ho⟩ := SX_ex (D := D) (fun s => 1 ≤ s ∧ xt (D 3) (D 0 1) s = 0) (fun k => inferInstanceAs (Decidable (_ ∧ _))) (fun s => nI (pc s))
      refine ⟨o, M, ho, ?_, Sm.rfl'⟩
      rw [if_neg h01, if_pos rfl]
      cases o with
      | none => rfl
      | some q =>
        show _ = some (if b = 0 then nI (pc q.2) else if b = 1 then nI q.2 else -1, M)
        rw [if_neg (fun q => h01 (Or.inl q)), if_neg (fun q => h01 (Or.inr q))]
