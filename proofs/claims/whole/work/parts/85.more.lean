/-! pictures, spare, knot, more, loosen -/
theorem B_pictures : Both f_C_pictures f_Mo_pictures := by
  refine Both.of (fun D => nI (nSp (D 3) (frN (D 0 1) (D (10 + D 7 0) 1)) (D 0 1))) (fun D M h => ?_) (fun D M h => ?_)
  · obtain ⟨b, M1, k1, k2, -⟩ := reach_ok h h.fr'
    refine ⟨M1, ?_, k2⟩
    unfold f_C_pictures
    rw [ckK_eq (pl_kd h), C_free_ok h, bnd_s, k1, bnd_s]
  · obtain ⟨M1, k1, k2, -⟩ := pictures_ok h
    refine ⟨M1, ?_, k2⟩
    rw [k1]
    unfold thp
    rw [cnt_tha0 h]
theorem wo_I : ∀ j, j < 8 → ∀ m, m < 256 → m.testBit j = true → nI m &&& (((1 : Int32) <<< (nI j &&& 31)) ^^^ (-1)) = nI (m ^^^ 2 ^ j) := by decide +kernel
theorem an_I : ∀ j, j < 8 → ∀ m, m < 256 → (nI m &&& ((1 : Int32) <<< (nI j &&& 31)) = 0 ↔ m.testBit j = false) := by decide +kernel
theorem lo_I : ∀ j, j < 8 → ∀ m, m < 256 → m.testBit j = false → nI m ||| ((1 : Int32) <<< (nI j &&& 31)) = nI (m ^^^ 2 ^ j) := by decide +kernel
theorem x2_lt {m j : Nat} (hm : m < 256) (hj : j < 8) : m ^^^ 2 ^ j < 256 := Nat.xor_lt_two_pow (n := 8) hm (Nat.pow_lt_pow_right (by decide) hj)
theorem without_ok {D : DT} {M : AM} (h : Rel D M) {j : Nat} (hj : j < D 0 1) (ht : (D (10 + D 7 0) 1).testBit j = false) : ∃ M1, f_Mo_without (nI j) M = some (nI (nSp (D 3) (frN (D 0 1) (D (10 + D 7 0) 1) ^^^ 2 ^ j) (D 0 1)), M1) ∧ Sm M M1 := by
  have hnc := h.1.2.1
  have hf : (frN (D 0 1) (D (10 + D 7 0) 1)).testBit j = true := by
    rw [fr_tball h, ht]; simp [hj]
  obtain ⟨M1, k1, k2, -⟩ := layPictures_ok h (x2_lt h.fr' (show j < 8 by omega)) (mo := 0) (by decide)
  refine ⟨M1, ?_, k2⟩
  unfold f_Mo_without
  rw [nI_0] at k1
  rw [Mo_free_ok h, bnd_s, wo_I j (by omega) _ h.fr' hf, k1, bnd_s, cnt_tha0 h]
theorem B_knot (a : Int32) : Both (f_C_knot a) (f_Mo_knot a) := by
  rcases Decidable.em (a < 0) with hneg | hneg
  · refine Both.pure fun D M h => ⟨-1, ?_, ?_⟩
    · unfold f_C_knot
      rw [isFree_out h (Or.inl hneg), bnd_s, if_pos rfl]
    · unfold f_Mo_knot
      rw [isCord_out h (Or.inl hneg), bnd_s, if_pos rfl]
  · obtain ⟨j, hj31, rfl⟩ := nI_of hneg
    refine Both.of (fun D => if j < D 0 1 ∧ (D (10 + D 7 0) 1).testBit j = false then nI (nSp (D 3) (frN (D 0 1) (D (10 + D 7 0) 1)) (D 0 1)) - nI (nSp (D 3) (frN (D 0 1) (D (10 + D 7 0) 1) ^^^ 2 ^ j) (D 0 1)) else -1) (fun D M h => ?_) (fun D M h => ?_)
    · have hnc := h.1.2.1
      unfold f_C_knot
      by_cases hj : j < D 0 1
      · rw [isFree_in h hj, bnd_s]
        by_cases ht : (D (10 + D 7 0) 1).testBit j = true
        · exact ⟨M, by rw [if_pos ht, if_pos rfl, if_neg (fun q => by rw [ht] at q; cases q.2)], Sm.rfl'⟩
        · have hf0 : (D (10 + D 7 0) 1).testBit j = false := by simpa using ht
          have hf : (frN (D 0 1) (D (10 + D 7 0) 1)).testBit j = true := by
            rw [fr_tball h, hf0]; simp [hj]
          obtain ⟨b, M1, k1, k2, -⟩ := reach_ok h h.fr'
          have hR := h.sm k2
          obtain ⟨b2, M2, q1, q2, -⟩ := reach_ok hR (x2_lt h.fr' (show j < 8 by omega))
          refine ⟨M2, ?_, k2.trans q2⟩
          rw [if_neg ht, if_neg (by decide), C_free_ok h, bnd_s, ckK_eq (pl_kd h), k1, bnd_s, ckK_eq (pl_kd hR), wo_I j (by omega) _ h.fr' hf, q1, bnd_s, if_pos ⟨hj, hf0⟩]
      · exact ⟨M, by rw [isFree_out h (Or.inr (nI_le (by omega) hj31)), bnd_s, if_pos rfl, if_neg (fun q => hj q.1)], Sm.rfl'⟩
    · have hnc := h.1.2.1
      unfold f_Mo_knot
      by_cases hj : j < D 0 1
      · rw [isCord_in h hj, bnd_s, if_neg (by decide), isTied_ok h (by omega), bnd_s]
        by_cases ht : (D (10 + D 7 0) 1).testBit j = true
        · exact ⟨M, by rw [if_pos ht, if_neg (by decide), if_neg (fun q => by rw [ht] at q; cases q.2)], Sm.rfl'⟩
        · have hf0 : (D (10 + D 7 0) 1).testBit j = false := by simpa using ht
          obtain ⟨M1, k1, k2, -⟩ := pictures_ok h
          have hR := h.sm k2
          obtain ⟨M2, q1, q2⟩ := without_ok hR hj hf0
          refine ⟨M2, ?_, k2.trans q2⟩
          rw [if_neg ht, if_pos rfl, k1, bnd_s, q1, bnd_s, if_pos ⟨hj, hf0⟩]
          unfold thp
          rw [cnt_tha0 h]
      · exact ⟨M, by rw [isCord_out h (Or.inr (nI_le (by omega) hj31)), bnd_s, if_pos rfl, if_neg (fun q => hj q.1)], Sm.rfl'⟩
/-- cords to spare -/
def spr (D : DT) (c : Nat) : Bool := !(D (10 + D 7 0) 1).testBit c && decide (nSp (D 3) (frN (D 0 1) (D (10 + D 7 0) 1) ^^^ 2 ^ c) (D 0 1) = nSp (D 3) (frN (D 0 1) (D (10 + D 7 0) 1)) (D 0 1))
theorem msk_s (P : Nat → Bool) (n : Nat) : msk P (n + 1) = msk P n ||| (if P n then 2 ^ n else 0) := rfl
theorem B_spare : Both f_C_spare f_Mo_spare := by
  refine Both.of (fun D => nI (msk (spr D) (D 0 1))) (fun D M h => ?_) (fun D M h => ?_)
  · have hnc := h.1.2.1
    have hfr := h.fr'
    obtain ⟨b0, M0, k1, k2, -⟩ := reach_ok h h.fr'
    have hall := nSp_le (D 3) (frN (D 0 1) (D (10 + D 7 0) 1)) (D 0 1)
    have htb := fr_tball h
    have key : ∃ o, f_C_spare_l23 (nI (frN (D 0 1) (D (10 + D 7 0) 1))) (nI (nSp (D 3) (frN (D 0 1) (D (10 + D 7 0) 1)) (D 0 1))) fu 0 0 M0 = some o ∧ (o.1 = nI (msk (spr D) (D 0 1)) ∧ Sm M o.2) := by
      refine for_inv (fun z (s : Int32 × Int32 × AM) => f_C_spare_l23 (nI (frN (D 0 1) (D (10 + D 7 0) 1))) (nI (nSp (D 3) (frN (D 0 1) (D (10 + D 7 0) 1)) (D 0 1))) z s.1 s.2.1 s.2.2) (fun k s => s.1 = nI (msk (spr D) k) ∧ s.2.1 = nI k ∧ Sm M s.2.2) (D 0 1) _ (fun k s z hk hI => ?_) (fun s z hI => ?_) (D 0 1) 0 (0, 0, M0) fu (by omega) (by rw [fu_eq]; omega) ⟨rfl, rfl, k2⟩
      · obtain ⟨v1, v2, N⟩ := s
        obtain ⟨rfl, rfl, i1⟩ := hI
        simp only at i1
        left
        have hR := h.sm i1
        have hbk := htb k
        have hfk : (frN (D 0 1) (D (10 + D 7 0) 1)).testBit k = !(D (10 + D 7 0) 1).testBit k := by rw [hbk]; simp [hk]
        by_cases ht : (D (10 + D 7 0) 1).testBit k = true
        · have hp : spr D k = false := by unfold spr; rw [ht]; rfl
          refine ⟨(nI (msk (spr D) (k + 1)), nI (k + 1), N), ⟨rfl, rfl, i1⟩, ?_⟩
          show f_C_spare_b23 (f_C_spare_l23 _ _ z) _ _ (nI (msk (spr D) k)) (nI k) N = f_C_spare_l23 _ _ z (nI (msk (spr D) (k + 1))) (nI (k + 1)) N
          unfold f_C_spare_b23
          rw [ckK_eq (pl_kd hR), hR.2.2.2.1.1.2.2.1, if_neg (nI_ge hk (by omega)), if_pos ((an_I k (by omega) _ hfr).mpr (by rw [hfk, ht]; rfl)), nI_1, msk_s, hp]
          simp
        · have hf0 : (D (10 + D 7 0) 1).testBit k = false := by simpa using ht
          have hf1 : (frN (D 0 1) (D (10 + D 7 0) 1)).testBit k = true := by rw [hfk, hf0]; rfl
          obtain ⟨b1, N1, q1, q2, -⟩ := reach_ok hR (x2_lt hfr (show k < 8 by omega))
          have hle := nSp_le (D 3) (frN (D 0 1) (D (10 + D 7 0) 1) ^^^ 2 ^ k) (D 0 1)
          refine ⟨(nI (msk (spr D) (k + 1)), nI (k + 1), N1), ⟨rfl, rfl, i1.trans q2⟩, ?_⟩
          show f_C_spare_b23 (f_C_spare_l23 _ _ z) _ _ (nI (msk (spr D) k)) (nI k) N = f_C_spare_l23 _ _ z (nI (msk (spr D) (k + 1))) (nI (k + 1)) N1
          unfold f_C_spare_b23
          rw [ckK_eq (pl_kd hR), hR.2.2.2.1.1.2.2.1, if_neg (nI_ge hk (by omega)), if_neg (fun q => by rw [(an_I k (by omega) _ hfr).mp q] at hf1; cases hf1), ckK_eq (pl_kd hR), wo_I k (by omega) _ hfr hf1, q1, bnd_s, nI_1, nx_one k (by omega), nx_or, msk_s]
          unfold spr
          by_cases e : nSp (D 3) (frN (D 0 1) (D (10 + D 7 0) 1) ^^^ 2 ^ k) (D 0 1) = nSp (D 3) (frN (D 0 1) (D (10 + D 7 0) 1)) (D 0 1)
          · rw [if_pos (by rw [e])]; simp [hf0, e]
          · rw [if_neg (fun q => e ((nI_eq (by omega) (by omega)).mp q))]; simp [hf0, e]
      · obtain ⟨v1, v2, N⟩ := s
        obtain ⟨rfl, rfl, i1⟩ := hI
        simp only at i1
        have hR := h.sm i1
        refine ⟨(nI (msk (spr D) (D 0 1)), N), ?_, rfl, i1⟩
        show f_C_spare_b23 (f_C_spare_l23 _ _ z) _ _ (nI (msk (spr D) (D 0 1))) (nI (D 0 1)) N = _
        unfold f_C_spare_b23
        rw [ckK_eq (pl_kd hR), hR.2.2.2.1.1.2.2.1, if_pos (nI_le (Nat.le_refl _) (by omega))]
    obtain ⟨⟨v, M1⟩, e1, e2, e3⟩ := key
    simp only at e2
    refine ⟨M1, ?_, e3⟩
    unfold f_C_spare
    rw [C_free_ok h, bnd_s, ckK_eq (pl_kd h), k1, bnd_s, e1, bnd_s, e2]
  · have hnc := h.1.2.1
    obtain ⟨M0, k1, k2, -⟩ := pictures_ok h
    have ek : cnt (thp D) 256 = nSp (D 3) (frN (D 0 1) (D (10 + D 7 0) 1)) (D 0 1) := by unfold thp; exact cnt_tha0 h _
    rw [ek] at k1
    have hall := nSp_le (D 3) (frN (D 0 1) (D (10 + D 7 0) 1)) (D 0 1)
    have key : ∃ o, f_Mo_spare_l9 (nI (nSp (D 3) (frN (D 0 1) (D (10 + D 7 0) 1)) (D 0 1))) fu 0 0 M0 = some o ∧ (o.1 = nI (msk (spr D) (D 0 1)) ∧ Sm M o.2) := by
      refine for_inv (fun z (s : Int32 × Int32 × AM) => f_Mo_spare_l9 (nI (nSp (D 3) (frN (D 0 1) (D (10 + D 7 0) 1)) (D 0 1))) z s.1 s.2.1 s.2.2) (fun k s => s.1 = nI (msk (spr D) k) ∧ s.2.1 = nI k ∧ Sm M s.2.2) (D 0 1) _ (fun k s z hk hI => ?_) (fun s z hI => ?_) (D 0 1) 0 (0, 0, M0) fu (by omega) (by rw [fu_eq]; omega) ⟨rfl, rfl, k2⟩
      · obtain ⟨v1, v2, N⟩ := s
        obtain ⟨rfl, rfl, i1⟩ := hI
        simp only at i1
        left
        have hR := h.sm i1
        by_cases ht : (D (10 + D 7 0) 1).testBit k = true
        · have hp : ¬ spr D k = true := by unfold spr; rw [ht]; simp
          refine ⟨(nI (msk (spr D) (k + 1)), nI (k + 1), N), ⟨rfl, rfl, i1⟩, ?_⟩
          show f_Mo_spare_b9 (f_Mo_spare_l9 _ z) _ (nI (msk (spr D) k)) (nI k) N = f_Mo_spare_l9 _ z (nI (msk (spr D) (k + 1))) (nI (k + 1)) N
          unfold f_Mo_spare_b9 f_Mo_spare_j39 f_Mo_spare_j40
          rw [hR.2.2.2.2.2.1.1.2.2.1, if_neg (nI_ge hk (by omega)), isTied_ok hR (by omega), bnd_s, if_pos ht, if_neg (by decide), truth_0, bnd_s, nI_1, ← msk_step (by omega), if_neg hp]
          rfl
        · have hf0 : (D (10 + D 7 0) 1).testBit k = false := by simpa using ht
          obtain ⟨N1, q1, q2⟩ := without_ok hR hk hf0
          have hle := nSp_le (D 3) (frN (D 0 1) (D (10 + D 7 0) 1) ^^^ 2 ^ k) (D 0 1)
          refine ⟨(nI (msk (spr D) (k + 1)), nI (k + 1), N1), ⟨rfl, rfl, i1.trans q2⟩, ?_⟩
          show f_Mo_spare_b9 (f_Mo_spare_l9 _ z) _ (nI (msk (spr D) k)) (nI k) N = f_Mo_spare_l9 _ z (nI (msk (spr D) (k + 1))) (nI (k + 1)) N1
          unfold f_Mo_spare_b9 f_Mo_spare_j39 f_Mo_spare_j40
          rw [hR.2.2.2.2.2.1.1.2.2.1, if_neg (nI_ge hk (by omega)), isTied_ok hR (by omega), bnd_s, if_neg ht, if_pos rfl, q1, bnd_s, truth_0, truth_1, bnd_s, bnd_s, nI_1, ← msk_step (by omega)]
          by_cases e : nSp (D 3) (frN (D 0 1) (D (10 + D 7 0) 1) ^^^ 2 ^ k) (D 0 1) = nSp (D 3) (frN (D 0 1) (D (10 + D 7 0) 1)) (D 0 1)
          · have hp : spr D k = true := by unfold spr; simp [hf0, e]
            rw [if_pos (by rw [e]), if_pos hp]; rfl
          · have hp : ¬ spr D k = true := by unfold spr; simp [hf0, e]
            rw [if_neg (fun q => e ((nI_eq (by omega) (by omega)).mp q)), if_neg hp]; rfl
      · obtain ⟨v1, v2, N⟩ := s
        obtain ⟨rfl, rfl, i1⟩ := hI
        simp only at i1
        have hR := h.sm i1
        refine ⟨(nI (msk (spr D) (D 0 1)), N), ?_, rfl, i1⟩
        show f_Mo_spare_b9 (f_Mo_spare_l9 _ z) _ (nI (msk (spr D) (D 0 1))) (nI (D 0 1)) N = _
        unfold f_Mo_spare_b9
        rw [hR.2.2.2.2.2.1.1.2.2.1, if_pos (nI_le (Nat.le_refl _) (by omega))]
    obtain ⟨⟨v, M1⟩, e1, e2, e3⟩ := key
    simp only at e2
    refine ⟨M1, ?_, e3⟩
    unfold f_Mo_spare
    rw [k1, bnd_s, e1, bnd_s, e2]
