/-! dearest, boldest -/
theorem B_dearest : Both f_C_dearest f_Mo_dearest := by
  refine Both.uni (fun D o => IB (CX D (fun c => (D (10 + D 7 0) 1).testBit c = false) (fun c => -nI (D 4 c))) o) (fun D o => bp o) (fun D o o' => IB.uni) (fun D M h => ?_) (fun D M h => ?_)
  · obtain ⟨M0, c1, c2, c3⟩ := clear_ok M
    have hnc := h.1.2.1
    have hfr := h.fr'
    have htb : ∀ c, c < D 0 1 → (frN (D 0 1) (D (10 + D 7 0) 1)).testBit c = !(D (10 + D 7 0) 1).testBit c := fun c hc => by
      rw [fr_tb _ (by omega) _ h.tied' h.tied c (by omega)]; simp [hc]
    unfold f_C_dearest f_Sets_dearestOf
    rw [ckK_eq (pl_kd h), C_free_ok h, bnd_s, c1, bnd_s]
    have key := cordsC h (f_Sets_dearestOf_l9 (gR M 0 3) (nI (frN (D 0 1) (D (10 + D 7 0) 1)))) (fun c => (D (10 + D 7 0) 1).testBit c = false) (fun _ => inferInstanceAs (Decidable (_ = _))) (fun c => -nI (D 4 c)) c3 c2
    generalize frN (D 0 1) (D (10 + D 7 0) 1) = F at *
    generalize gR M 0 3 = p at *
    generalize gR M 39 (D 7 0) = r at *
    obtain ⟨o, M1, k1, k2, k3, k4⟩ := key
      (fun k z N h2 hN hv hR hc => by
        obtain ⟨v1, v2, v3, v4, v5, v6, v7⟩ := hv
        have ht : (D (10 + D 7 0) 1).testBit k = true := by simpa using hc
        show f_Sets_dearestOf_b9 (f_Sets_dearestOf_l9 p (nI F) z) p (nI F) (nI k) N = _
        unfold f_Sets_dearestOf_b9
        rw [v5, if_neg (nI_ge h2 (by omega)), nx_bit (by omega) (by omega), tb_mod, htb k h2, ht, if_pos (by decide), nI_1])
      (fun k z N h2 hN hv hR hA => by
        obtain ⟨v1, v2, v3, v4, v5, v6, v7⟩ := hv
        refine ⟨N, ?_, Sm.rfl', fun j => rfl⟩
        show f_Sets_dearestOf_b9 (f_Sets_dearestOf_l9 p (nI F) z) p (nI F) (nI k) N = _
        unfold f_Sets_dearestOf_b9
        rw [v5, if_neg (nI_ge h2 (by omega)), nx_bit (by omega) (by omega), tb_mod, htb k h2, hA, if_neg (by decide), ald_nI (by omega) (by decide), (v6 k h2).2, nI_1])
      (fun z N hN hv hR => by
        obtain ⟨v1, v2, v3, v4, v5, v6, v7⟩ := hv
        show f_Sets_dearestOf_b9 (f_Sets_dearestOf_l9 p (nI F) z) p (nI F) (nI (D 0 1)) N = _
        unfold f_Sets_dearestOf_b9
        rw [v5, if_pos (nI_le (Nat.le_refl _) (by omega))])
    rw [nI_0] at k3
    exact ⟨o, M1, k1, by rw [k3, bnd_s, bnd_s, k2.1], k4⟩
  · have hnc := h.1.2.1
    obtain ⟨o, M1, k1, k2, k3⟩ := cordsM h f_Mo_dearest_l4 (fun c => (D (10 + D 7 0) 1).testBit c = false) (fun _ => inferInstanceAs (Decidable (_ = _))) (fun c => -nI (D 4 c))
      (fun k z N v hk hN hc => by
        have ht : (D (10 + D 7 0) 1).testBit k = true := by simpa using hc
        show f_Mo_dearest_b4 (f_Mo_dearest_l4 z) v (nI k) N = _
        unfold f_Mo_dearest_b4
        rw [hN.2.2.2.2.2.1.1.2.2.1, if_neg (nI_ge hk (by omega)), isTied_ok hN (by omega), bnd_s, if_pos ht, if_neg (by decide), nI_1])
      (fun k z N hk hN hA => by
        show f_Mo_dearest_b4 (f_Mo_dearest_l4 z) (-1) (nI k) N = _
        unfold f_Mo_dearest_b4
        rw [hN.2.2.2.2.2.1.1.2.2.1, if_neg (nI_ge hk (by omega)), isTied_ok hN (by omega), bnd_s, hA, if_pos (by decide), if_pos (by decide), nI_1])
      (fun k z N p hk hN hA hp hA2 => by
        have ht := (h.1.2.2.2.2.2.2.2.1 k hk).2
        have ht2 := (h.1.2.2.2.2.2.2.2.1 p (by omega)).2
        show f_Mo_dearest_b4 (f_Mo_dearest_l4 z) (nI p) (nI k) N = _
        unfold f_Mo_dearest_b4
        rw [hN.2.2.2.2.2.1.1.2.2.1, if_neg (nI_ge hk (by omega)), isTied_ok hN (by omega), bnd_s, hA, if_pos (by decide), if_neg (nI_pos (by omega)), ald_nI (by omega) (by decide), (hN.2.2.2.2.2.1.2.2.1 k hk).2, ald_nI (by omega) (by decide), (hN.2.2.2.2.2.1.2.2.1 p (by omega)).2, nI_1]
        by_cases q : D 4 k ≤ D 4 p
        · rw [if_pos (nI_le q (by omega)), if_neg (fun w => by have := (neg_lt_I (by omega) (by omega)).mp w; omega)]
        · rw [if_neg (nI_ge (by omega) (by omega)), if_pos ((neg_lt_I (by omega) (by omega)).mpr (by omega))])
      (fun z N v hN => by
        show f_Mo_dearest_b4 (f_Mo_dearest_l4 z) v (nI (D 0 1)) N = _
        unfold f_Mo_dearest_b4
        rw [hN.2.2.2.2.2.1.1.2.2.1, if_pos (nI_le (Nat.le_refl _) (by omega))])
    refine ⟨o, M1, k1, ?_, k3⟩
    unfold f_Mo_dearest
    rw [nI_0] at k2
    rw [k2, bnd_s]
/-- of the free cords the one behind whose pull the most burn -/
def bdc (D : DT) (c : Nat) : Option Int32 := if (D (10 + D 7 0) 1).testBit c = true then none else some (-nI (pc (D (10 + D 7 0) 0 ^^^ D 3 c)))
def bdm : Option (Int32 × Nat) → Int32
  | none => -1
  | some q => -q.1
theorem bdc_some {D : DT} {c : Nat} {s : Int32} (h : bdc D c = some s) : (D (10 + D 7 0) 1).testBit c = false ∧ s = -nI (pc (D (10 + D 7 0) 0 ^^^ D 3 c)) := by
  unfold bdc at h
  by_cases q : (D (10 + D 7 0) 1).testBit c = true
  · rw [if_pos q] at h; cases h
  · rw [if_neg q] at h; cases h; exact ⟨by simpa using q, rfl⟩
theorem negneg (a : Nat) : -(-nI a) = nI a := Int32.neg_neg
theorem Mo_boldest_l {D : DT} {M : AM} (h : Rel D M) (a : Int32) : f_Mo_boldest_l18 a fu (-1) (-1) 0 M = some ((bp (scn (bdc D) (D 0 1)), bdm (scn (bdc D) (D 0 1))), M) := by
  have hnc := h.1.2.1
  have h256 := p2_le h.1.1
  have hx : ∀ k, k < D 0 1 → D (10 + D 7 0) 0 ^^^ D 3 k < 256 := fun k hk => Nat.lt_of_lt_of_le (Nat.xor_lt_two_pow h.pic (h.1.2.2.2.2.2.2.2.1 k hk).1) h256
  exact for_up (fun z (s : Int32 × Int32 × Int32 × AM) => f_Mo_boldest_l18 a z s.1 s.2.1 s.2.2.1 s.2.2.2) (fun k => (bp (scn (bdc D) k), bdm (scn (bdc D) k), nI k, M)) (D 0 1) _
    (fun k z hk => by
      show f_Mo_boldest_b18 (f_Mo_boldest_l18 a z) a (bp (scn (bdc D) k)) (bdm (scn (bdc D) k)) (nI k) M = f_Mo_boldest_l18 a z (bp (scn (bdc D) (k + 1))) (bdm (scn (bdc D) (k + 1))) (nI (k + 1)) M
      have hxk := hx k hk
      have l8 := pc_le (D (10 + D 7 0) 0 ^^^ D 3 k)
      unfold f_Mo_boldest_b18 f_Mo_boldest_j57
      rw [h.2.2.2.2.2.1.1.2.2.1, if_neg (nI_ge hk (by omega)), isTied_ok h (by omega), bnd_s, now_ald h 0 0 rfl (by decide), ald_nI (by omega) (by decide), (h.2.2.2.2.2.1.2.2.1 k hk).1, nx_xor, members_ok (by omega), bnd_s, nI_1]
      by_cases ht : (D (10 + D 7 0) 1).testBit k = true
      · have hc : bdc D k = none := if_pos ht
        rw [if_pos ht, if_neg (by decide), scn_n hc]
        rw [if_neg]
        cases hs : scn (bdc D) k with
        | none => decide
        | some q =>
          obtain ⟨s, p⟩ := q
          have := bdc_some (scn_in hs).2
          show ¬ -s < -1
          rw [this.2, negneg]
          have l9 := pc_le (D (10 + D 7 0) 0 ^^^ D 3 p)
          intro w
          exact absurd (m1_lt (a := pc (D (10 + D 7 0) 0 ^^^ D 3 p)) (by omega)) (Int32.not_lt.mpr (Int32.le_of_lt w))
      · have hc : bdc D k = some (-nI (pc (D (10 + D 7 0) 0 ^^^ D 3 k))) := if_neg ht
        rw [if_neg ht, if_pos rfl]
        cases hs : scn (bdc D) k with
        | none =>
          rw [scn_0 hc hs]
          show (if (-1 : Int32) < nI (pc (D (10 + D 7 0) 0 ^^^ D 3 k)) then _ else _) = f_Mo_boldest_l18 a z (nI k) (-(-nI (pc (D (10 + D 7 0) 0 ^^^ D 3 k)))) (nI (k + 1)) M
          rw [if_pos (m1_lt (by omega)), negneg]
        | some q =>
          obtain ⟨s, p⟩ := q
          have hp := bdc_some (scn_in hs).2
          have l9 := pc_le (D (10 + D 7 0) 0 ^^^ D 3 p)
          rw [scn_1 hc hs, hp.2]
          show (if -(-nI (pc (D (10 + D 7 0) 0 ^^^ D 3 p))) < nI (pc (D (10 + D 7 0) 0 ^^^ D 3 k)) then f_Mo_boldest_l18 a z (nI k) (nI (pc (D (10 + D 7 0) 0 ^^^ D 3 k))) (nI (k + 1)) M else f_Mo_boldest_l18 a z (nI p) (-(-nI (pc (D (10 + D 7 0) 0 ^^^ D 3 p)))) (nI (k + 1)) M) = _
          rw [negneg]
          by_cases w : pc (D (10 + D 7 0) 0 ^^^ D 3 p) < pc (D (10 + D 7 0) 0 ^^^ D 3 k)
          · rw [if_pos (nI_lt w (by omega)), if_pos ((neg_lt_I (by omega) (by omega)).mpr w)]
            show _ = f_Mo_boldest_l18 a z (nI k) (-(-nI (pc (D (10 + D 7 0) 0 ^^^ D 3 k)))) (nI (k + 1)) M
            rw [negneg]
          · rw [if_neg (nI_nlt (by omega) (by omega)), if_neg (fun y => w ((neg_lt_I (by omega) (by omega)).mp y))]
            show _ = f_Mo_boldest_l18 a z (nI p) (-(-nI (pc (D (10 + D 7 0) 0 ^^^ D 3 p)))) (nI (k + 1)) M
            rw [negneg])
    (fun z => by
      show f_Mo_boldest_b18 (f_Mo_boldest_l18 a z) a (bp (scn (bdc D) (D 0 1))) (bdm (scn (bdc D) (D 0 1))) (nI (D 0 1)) M = _
      unfold f_Mo_boldest_b18
      rw [h.2.2.2.2.2.1.1.2.2.1, if_pos (nI_le (Nat.le_refl _) (by omega))]) (D 0 1) 0 fu (by omega) (by rw [fu_eq]; omega)
theorem brightestPull_ok {D : DT} {M : AM} (h : Rel D M) : ∃ M1, f_Sets_brightestPull (gR M 0 3) (gR M 39 (D 7 0)) M = some (bp (scn (bdc D) (D 0 1)), M1) ∧ Sm M M1 := by
  obtain ⟨M0, c1, c2, c3⟩ := clear_ok M
  have hnc := h.1.2.1
  have h256 := p2_le h.1.1
  have htd := h.tied'
  have hx : ∀ k, k < D 0 1 → D (10 + D 7 0) 0 ^^^ D 3 k < 256 := fun k hk => Nat.lt_of_lt_of_le (Nat.xor_lt_two_pow h.pic (h.1.2.2.2.2.2.2.2.1 k hk).1) h256
  have key := cordsC h (f_Sets_brightestPull_l9 (gR M 0 3) (gR M 39 (D 7 0))) (fun c => (D (10 + D 7 0) 1).testBit c = false) (fun _ => inferInstanceAs (Decidable (_ = _))) (fun c => -nI (pc (D (10 + D 7 0) 0 ^^^ D 3 c))) c3 c2
  unfold f_Sets_brightestPull
  rw [c1, bnd_s]
  generalize gR M 0 3 = p at *
  generalize gR M 39 (D 7 0) = r at *
  obtain ⟨o, M1, k1, k2, k3, k4⟩ := key
    (fun k z N h2 hN hv hR hc => by
      obtain ⟨v1, v2, v3, v4, v5, v6, v7⟩ := hv
      have ht : (D (10 + D 7 0) 1).testBit k = true := by simpa using hc
      show f_Sets_brightestPull_b9 (f_Sets_brightestPull_l9 p r z) p r (nI k) N = _
      unfold f_Sets_brightestPull_b9
      rw [v5, if_neg (nI_ge h2 (by omega)), v3, nx_bit (by omega) (by omega), tb_mod, if_pos ht, if_neg (by decide), nI_1])
    (fun k z N h2 hN hv hR hA => by
      obtain ⟨v1, v2, v3, v4, v5, v6, v7⟩ := hv
      refine ⟨N, ?_, Sm.rfl', fun j => rfl⟩
      show f_Sets_brightestPull_b9 (f_Sets_brightestPull_l9 p r z) p r (nI k) N = _
      unfold f_Sets_brightestPull_b9
      rw [v5, if_neg (nI_ge h2 (by omega)), v3, nx_bit (by omega) (by omega), tb_mod, hA, if_pos (by decide), ald_nI (by omega) (by decide), (v6 k h2).1, v2, nx_xor, bc_ok (hx k h2), bnd_s, nI_1])
    (fun z N hN hv hR => by
      obtain ⟨v1, v2, v3, v4, v5, v6, v7⟩ := hv
      show f_Sets_brightestPull_b9 (f_Sets_brightestPull_l9 p r z) p r (nI (D 0 1)) N = _
      unfold f_Sets_brightestPull_b9
      rw [v5, if_pos (nI_le (Nat.le_refl _) (by omega))])
  have ho : o = scn (bdc D) (D 0 1) := by
    refine k1.uni ((scn_ok (bdc D) _).ext (fun s q => ⟨?_, ?_⟩))
    · rintro ⟨h1, h2⟩
      obtain ⟨h3, rfl⟩ := bdc_some h2
      exact ⟨h1, h3, rfl⟩
    · rintro ⟨x1, x2, rfl⟩
      refine ⟨x1, ?_⟩
      unfold bdc
      rw [if_neg (by rw [x2]; decide)]
  rw [nI_0] at k3
  exact ⟨M1, by rw [k3, bnd_s, k2.1, ho], k4⟩
theorem B_boldest (a : Int32) : Both (f_C_boldest a) (f_Mo_boldest a) := by
  refine Both.of (fun D => if a = 0 then bp (scn (bdc D) (D 0 1)) else if a = 1 then bdm (scn (bdc D) (D 0 1)) else -1) (fun D M h => ?_) (fun D M h => ?_)
  · obtain ⟨M1, k1, k2⟩ := brightestPull_ok h
    have h256 := p2_le h.1.1
    have hnc := h.1.2.1
    refine ⟨M1, ?_, k2⟩
    have hR := h.sm k2
    have e9 : gR M 39 (D 7 0) = gR M1 39 (D 7 0) := (k2.1 _ _).symm
    unfold f_C_boldest
    rw [cur_ok h, bnd_s, ckK_eq (pl_kd h), k1, bnd_s]
    cases hs : scn (bdc D) (D 0 1) with
    | none =>
      rw [if_neg bp_none]
      by_cases a0 : a = 0
      · rw [if_pos a0]; rfl
      · rw [if_neg a0]
        by_cases a1 : a = 1
        · rw [if_pos a1]; rfl
        · rw [if_neg a1]
    | some q =>
      obtain ⟨s, p⟩ := q
      have hp := (scn_in hs).1
      have hp2 := bdc_some (scn_in hs).2
      have hx : D (10 + D 7 0) 0 ^^^ D 3 p < 256 := Nat.lt_of_lt_of_le (Nat.xor_lt_two_pow h.pic (h.1.2.2.2.2.2.2.2.1 p hp).1) h256
      rw [if_pos (bp_some (s := s) (by omega)), ckK_eq (pl_kd hR)]
      show ald 8 M1 (gR M1 0 3 + 6) (nI p) (fun x7 => bnd (f_Int_bitCount (gI M1 (gR M 39 (D 7 0)) 0 ^^^ x7) M1) (fun r8 M9 => bnd (f_C_either a (nI p) r8 M9) (fun r10 M11 => some (r10, M11)))) = _
      rw [ald_nI (by omega) (by decide), (hR.2.2.2.1.2.2.1 p hp).1, e9, cst hR (by decide), nx_xor, bc_ok hx, bnd_s, either_eq, bnd_s]
      show some (if a = 0 then nI p else if a = 1 then nI (pc (D (10 + D 7 0) 0 ^^^ D 3 p)) else -1, M1) = some (if a = 0 then nI p else if a = 1 then -s else -1, M1)
      rw [hp2.2, negneg]
  · unfold f_Mo_boldest
    rw [isIn01, bnd_s]
    by_cases h01 : a = 0 ∨ a = 1
    · refine ⟨M, ?_, Sm.rfl'⟩
      rw [if_pos h01, if_neg (by decide), Mo_boldest_l h, bnd_s]
      by_cases h0 : a = 0
      · rw [if_pos h0, if_pos h0]
      · rw [if_neg h0, if_neg h0, if_pos (h01.resolve_left h0)]
    · exact ⟨M, by rw [if_neg h01, if_pos rfl, if_neg (fun q => h01 (Or.inl q)), if_neg (fun q => h01 (Or.inr q))], Sm.rfl'⟩
