theorem neg_toInt {a : Nat} (h : a < 2 ^ 30) : (-nI a).toInt = -(a : Int) := by
  rw [← Int32.zero_sub, ← nI_0, pk_sub_toInt (by decide) h]
  omega
theorem neg_lt_I {a b : Nat} (ha : a < 2 ^ 30) (hb : b < 2 ^ 30) : -nI a < -nI b ↔ b < a := by
  rw [Int32.lt_iff_toInt_lt, neg_toInt ha, neg_toInt hb]
  omega
/-- of cords that are so -/
def CX (D : DT) (A : Nat → Prop) (f : Nat → Int32) (s : Int32) (p : Nat) : Prop := p < D 0 1 ∧ A p ∧ s = f p
theorem cordsC {D : DT} {M M0 : AM} (h : Rel D M) (L : Nat → Int32 → AM → Option (Unit × AM)) (A : Nat → Prop) (dA : ∀ k, Decidable (A k)) (f : Nat → Int32) (hsm : Sm M M0) (hb : BS none M0)
    (stepN : ∀ k z N, k < D 0 1 → Sm M N → VW D N (gR M 0 3) (gR M 39 (D 7 0)) → Rel D N → ¬ A k → L (z + 1) (nI k) N = L z (nI (k + 1)) N)
    (stepS : ∀ k z N, k < D 0 1 → Sm M N → VW D N (gR M 0 3) (gR M 39 (D 7 0)) → Rel D N → A k → ∃ N', L (z + 1) (nI k) N = bnd (f_Best_offer (f k) (nI k) N') (fun _ N2 => L z (nI (k + 1)) N2) ∧ Sm N N' ∧ (∀ j, gI N' 87 j = gI N 87 j))
    (stop : ∀ z N, Sm M N → VW D N (gR M 0 3) (gR M 39 (D 7 0)) → Rel D N → L (z + 1) (nI (D 0 1)) N = some ((), N)) :
    ∃ o M1, IB (CX D A f) o ∧ BS o M1 ∧ L fu (nI 0) M0 = some ((), M1) ∧ Sm M M1 := by
  have hnc := h.1.2.1
  obtain ⟨o, M1, b1, b2, b3, b4⟩ := best_loop (M := M) (M0 := M0) L 0 (D 0 1) (fun k => if A k then some (f k, k) else none) (Nat.zero_le _) (by omega) hsm hb
    (fun k z N h1 h2 hN hc => by
      have hv := h.view hN
      refine ⟨N, stepN k z N h2 hN hv.1 hv.2 (fun q => ?_), Sm.rfl', fun j => rfl⟩
      rw [if_pos q] at hc; cases hc)
    (fun k z N x p h1 h2 hN hc => by
      have hv := h.view hN
      by_cases q : A k
      · rw [if_pos q] at hc
        cases hc
        exact ⟨by omega, stepS k z N h2 hN hv.1 hv.2 q⟩
      · rw [if_neg q] at hc; cases hc)
    (fun z N hN => stop z N hN (h.view hN).1 (h.view hN).2)
  refine ⟨o, M1, b1.ext (fun s p => ⟨?_, ?_⟩), b2, b3, b4⟩
  · rintro ⟨k, k1, k2, k3⟩
    by_cases q : A k
    · rw [if_pos q] at k3
      cases k3
      exact ⟨k2, q, rfl⟩
    · rw [if_neg q] at k3; cases k3
  · rintro ⟨k1, k2, rfl⟩
    exact ⟨p, Nat.zero_le _, k1, if_pos k2⟩
theorem cordsM {D : DT} {M : AM} (h : Rel D M) (L : Nat → Int32 → Int32 → AM → Option (Int32 × AM)) (A : Nat → Prop) (dA : ∀ k, Decidable (A k)) (f : Nat → Int32)
    (stepN : ∀ k z N v, k < D 0 1 → Rel D N → ¬ A k → L (z + 1) v (nI k) N = L z v (nI (k + 1)) N)
    (step0 : ∀ k z N, k < D 0 1 → Rel D N → A k → L (z + 1) (-1) (nI k) N = L z (nI k) (nI (k + 1)) N)
    (step1 : ∀ k z N p, k < D 0 1 → Rel D N → A k → p < k → A p → L (z + 1) (nI p) (nI k) N = L z (if f k < f p then nI k else nI p) (nI (k + 1)) N)
    (stop : ∀ z N v, Rel D N → L (z + 1) v (nI (D 0 1)) N = some (v, N)) :
    ∃ o M1, IB (CX D A f) o ∧ L fu (-1) (nI 0) M = some (bp o, M1) ∧ Sm M M1 := by
  have hnc := h.1.2.1
  generalize hc : (fun k => if A k then some (f k) else none) = cand
  have c1 : ∀ k, A k → cand k = some (f k) := fun k q => by rw [← hc]; exact if_pos q
  have c2 : ∀ k, ¬ A k → cand k = none := fun k q => by rw [← hc]; exact if_neg q
  obtain ⟨M1, s1, s2⟩ := scan_loop (M := M) (M0 := M) L 0 (D 0 1) cand (by omega) (by omega) Sm.rfl' rfl
    (fun k z N v h1 h2 hN hk => ⟨N, stepN k z N v h2 (h.sm hN) (fun q => by rw [c1 k q] at hk; cases hk), Sm.rfl'⟩)
    (fun k z N s h1 h2 hN hk => by
      by_cases q : A k
      · exact ⟨N, step0 k z N h2 (h.sm hN) q, Sm.rfl'⟩
      · rw [c2 k q] at hk; cases hk)
    (fun k z N s s0 p0 h1 h2 hN hk hp hk0 => by
      by_cases q : A k
      · by_cases q0 : A p0
        · rw [c1 k q] at hk
          rw [c1 p0 q0] at hk0
          cases hk
          cases hk0
          exact ⟨N, step1 k z N p0 h2 (h.sm hN) q hp q0, Sm.rfl'⟩
        · rw [c2 p0 q0] at hk0; cases hk0
      · rw [c2 k q] at hk; cases hk)
    (fun z N v hN => stop z N v (h.sm hN))
  refine ⟨scn cand (D 0 1), M1, (scn_ok cand _).ext (fun s p => ⟨?_, ?_⟩), s1, s2⟩
  · rintro ⟨k1, k2⟩
    by_cases q : A p
    · rw [c1 p q] at k2
      cases k2
      exact ⟨k1, q, rfl⟩
    · rw [c2 p q] at k2; cases k2
  · rintro ⟨k1, k2, rfl⟩
    exact ⟨k1, c1 p k2⟩
theorem B_longest : Both f_C_longest f_Mo_longest := by
  refine Both.uni (fun D o => IB (CX D (fun _ => True) (fun c => -nI (pc (D 3 c)))) o) (fun D o => bp o) (fun D o o' => IB.uni) (fun D M h => ?_) (fun D M h => ?_)
  · obtain ⟨M0, c1, c2, c3⟩ := clear_ok M
    have hnc := h.1.2.1
    have h256 := p2_le h.1.1
    have key := cordsC h (f_Sets_longestOf_l9 (gR M 0 3)) (fun _ => True) (fun _ => inferInstanceAs (Decidable True)) (fun c => -nI (pc (D 3 c))) c3 c2
    unfold f_C_longest f_Sets_longestOf
    rw [ckK_eq (pl_kd h), c1, bnd_s]
    generalize gR M 0 3 = p at *
    generalize gR M 39 (D 7 0) = r at *
    obtain ⟨o, M1, k1, k2, k3, k4⟩ := key
      (fun k z N h2 hN hv hR hc => absurd trivial hc)
      (fun k z N h2 hN hv hR hA => by
        obtain ⟨v1, v2, v3, v4, v5, v6, v7⟩ := hv
        have ht := (h.1.2.2.2.2.2.2.2.1 k h2).1
        refine ⟨N, ?_, Sm.rfl', fun j => rfl⟩
        show f_Sets_longestOf_b9 (f_Sets_longestOf_l9 p z) p (nI k) N = _
        unfold f_Sets_longestOf_b9
        rw [v5, if_neg (nI_ge h2 (by omega)), ald_nI (by omega) (by decide), (v6 k h2).1, bc_ok (by omega), bnd_s, nI_1])
      (fun z N hN hv hR => by
        obtain ⟨v1, v2, v3, v4, v5, v6, v7⟩ := hv
        show f_Sets_longestOf_b9 (f_Sets_longestOf_l9 p z) p (nI (D 0 1)) N = _
        unfold f_Sets_longestOf_b9
        rw [v5, if_pos (nI_le (Nat.le_refl _) (by omega))])
    rw [nI_0] at k3
    exact ⟨o, M1, k1, by rw [k3, bnd_s, bnd_s, k2.1], k4⟩
  · have hnc := h.1.2.1
    have h256 := p2_le h.1.1
    obtain ⟨o, M1, k1, k2, k3⟩ := cordsM h f_Mo_longest_l4 (fun _ => True) (fun _ => inferInstanceAs (Decidable True)) (fun c => -nI (pc (D 3 c)))
      (fun k z N v hk hN hc => absurd trivial hc)
      (fun k z N hk hN hA => by
        show f_Mo_longest_b4 (f_Mo_longest_l4 z) (-1) (nI k) N = _
        unfold f_Mo_longest_b4
        rw [hN.2.2.2.2.2.1.1.2.2.1, if_neg (nI_ge hk (by omega)), if_pos (by decide), nI_1])
      (fun k z N p hk hN hA hp hA2 => by
        have ht := (h.1.2.2.2.2.2.2.2.1 k hk).1
        have ht2 := (h.1.2.2.2.2.2.2.2.1 p (by omega)).1
        have l1 := pc_le (D 3 k)
        have l2 := pc_le (D 3 p)
        show f_Mo_longest_b4 (f_Mo_longest_l4 z) (nI p) (nI k) N = _
        unfold f_Mo_longest_b4
        rw [hN.2.2.2.2.2.1.1.2.2.1, if_neg (nI_ge hk (by omega)), if_neg (nI_pos (by omega)), ald_nI (by omega) (by decide), (hN.2.2.2.2.2.1.2.2.1 k hk).1, members_ok (by omega), bnd_s, ald_nI (by omega) (by decide), (hN.2.2.2.2.2.1.2.2.1 p (by omega)).1, members_ok (by omega), bnd_s, nI_1]
        by_cases q : pc (D 3 k) ≤ pc (D 3 p)
        · rw [if_pos (nI_le q (by omega)), if_neg (fun w => by have := (neg_lt_I (by omega) (by omega)).mp w; omega)]
        · rw [if_neg (nI_ge (by omega) (by omega)), if_pos ((neg_lt_I (by omega) (by omega)).mpr (by omega))])
      (fun z N v hN => by
        show f_Mo_longest_b4 (f_Mo_longest_l4 z) v (nI (D 0 1)) N = _
        unfold f_Mo_longest_b4
        rw [hN.2.2.2.2.2.1.1.2.2.1, if_pos (nI_le (Nat.le_refl _) (by omega))])
    refine ⟨o, M1, k1, ?_, k3⟩
    unfold f_Mo_longest
    rw [nI_0] at k2
    rw [k2, bnd_s]
