theorem tie_or : ∀ t, t < 256 → ∀ j, j < 8 → t.testBit j = false → nI t ||| ((1 : Int32) <<< (nI j &&& 31)) = nI (t ^^^ 2 ^ j) := by decide +kernel
theorem tie_and : ∀ t, t < 256 → ∀ j, j < 8 → t.testBit j = true → nI t &&& (((1 : Int32) <<< (nI j &&& 31)) ^^^ (-1)) = nI (t ^^^ 2 ^ j) := by decide +kernel
theorem tie_act {D : DT} {M : AM} (h : Rel D M) {j : Nat} (hj : j < D 0 1) : ∃ M0 r N1 D', f_Acts_open M = some (r, M0) ∧ gI M0 r 1 = nI (D (10 + D 7 0) 1) ∧ (40 ≤ r ∧ r ≤ 80) ∧ (∀ c k, ¬ lCS c k → gI M0 c k = gI M c k) ∧ f_Mo_turnTie (nI j) (sI M0 r 1 (nI (D (10 + D 7 0) 1 ^^^ 2 ^ j))) = some (nI (D (10 + D 7 0) 1 ^^^ 2 ^ j), N1) ∧ Rel D' N1 := by
  obtain ⟨ok, hC, hM, hB, hT, hS, hL⟩ := h.parts
  have hl := opn_le h.le40
  have hnc := h.1.2.1
  have ht := h.tied'
  obtain ⟨M0, o1, o2, o3, o4⟩ := open_ok hC h.le
  have hcell := o2.2.2.1 (opn D 7 0) (by omega)
  have hcur : ∀ i, i < 5 → gI M0 (gR M0 39 (opn D 7 0)) i = nI (D (10 + D 7 0) i) := fun i hi => by rw [o2.2.2.2.2 _ i hl.1 hi, opn_cur h.le40]
  generalize hr : gR M0 39 (opn D 7 0) = r at hcell hcur o1
  generalize hv : D (10 + D 7 0) 1 ^^^ 2 ^ j = v
  have hvl : v < 2 ^ D 0 1 := by rw [← hv]; exact Nat.xor_lt_two_pow h.tied (Nat.pow_lt_pow_right (by decide) hj)
  have hM1 : MST D (sI M0 r 1 (nI v)) := hM.cg (fun c k q => by rw [gI_sI, if_neg (by unfold lMS at q; omega), o3 c k (by unfold lMS at q; unfold lCS; omega)])
  obtain ⟨N0, p1, p2, p3, p4⟩ := act_ok hM1 h.le
  have hn1 : gI N0 123 1 = nI (D (10 + D 7 0) 1) := by rw [p2.2.2.1 1 (by decide), opn_cur h.le40]
  refine ⟨M0, r, sI N0 123 1 (nI v), setc (opn D) (at1 (D (10 + D 7 0)) 1 v), o1, hcur 1 (by decide), hcell, o3, ?_, ?_⟩
  · unfold f_Mo_turnTie
    rw [p1, bnd_s, nI_lit 1, ald_nI (by decide) (by decide), hn1, ast_nI (by decide) (by decide), ald_nI (by decide) (by decide), ← nI_lit 1, nx_one j (by omega), nx_xor, hv, gI_sI, if_pos ⟨rfl, rfl⟩]
  · have hs := h.curS
    refine h.act' _ ?_ o2 o3 o4 (M1 := sI M0 r 1 (nI v)) (fun i hi => ?_) (fun c k q _ => ?_) (fun c k => rfl) p2 p3 p4 (fun i hi => ?_) (fun c k q _ => ?_) (fun c k => rfl) ?_
    · rw [at1_n (by decide), at1_s, at1_n (by decide), at1_n (by decide)]; exact ⟨hs.1, hvl, hs.2.2⟩
    · rw [hr, gI_sI]
      by_cases hi1 : i = 1
      · rw [if_pos ⟨rfl, hi1⟩, hi1, at1_s]
      · rw [if_neg (by omega), at1_n hi1]; exact hcur i hi
    · rw [hr] at q
      rw [gI_sI, if_neg (by omega)]
    · rw [gI_sI]
      by_cases hi1 : i = 1
      · rw [if_pos ⟨rfl, hi1⟩, hi1, at1_s]
      · rw [if_neg (by omega), at1_n hi1, p2.2.2.1 i hi, opn_cur h.le40]
    · rw [gI_sI, if_neg (by omega)]
    · exact CCH.keep h (fun c k q1 q2 => by rw [gI_sI, if_neg (by omega), o3 c k (by unfold lCS; omega)])
/-- the reference asked after the class has written: it sees its own cells alone -/
theorem isCord_at {D : DT} {M M1 : AM} (h : Rel D M) (g : gI M1 105 42 = gI M 105 42) {j : Nat} (hj : j < D 0 1) : f_Mo_isCord (nI j) M1 = some (1, M1) := by
  unfold f_Mo_isCord
  rw [g, h.2.2.2.2.2.1.1.2.2.1, isIn_in hj (nct h)]; rfl
theorem isTied_at {D : DT} {M M1 : AM} (h : Rel D M) (g : gI M1 123 1 = gI M 123 1) {k : Nat} (hk : k < 32) : f_Mo_isTied (nI k) M1 = some (if (D (10 + D 7 0) 1).testBit k then 1 else 0, M1) := by
  unfold f_Mo_isTied
  rw [nI_lit 1, ald_nI (by decide) (by decide), g, now_ok h (by decide), has_ok (by have := h.tied'; omega) hk]; rfl
theorem B_tie (a : Int32) : Both (f_C_tie a) (f_Mo_tie a) := by
  intro D M h
  unfold f_C_tie f_Mo_tie
  rcases in_cases a (D 0 1) (by have := nct h; omega) with ⟨j, hj, rfl⟩ | ho
  · have hnc := h.1.2.1
    by_cases hb : (D (10 + D 7 0) 1).testBit j = true
    · refine ⟨-1, M, M, D, ?_, ?_, h⟩
      · rw [isFree_in h hj, bnd_s, if_pos hb, if_pos rfl]
      · rw [isCord_in h hj, bnd_s, if_neg (by decide), isTied_ok h (by omega), bnd_s, if_pos hb, if_neg (by decide)]
    · obtain ⟨M0, r, N1, D', o1, o2, hcell, p3, o3, o4⟩ := tie_act h hj
      refine ⟨nI (D (10 + D 7 0) 1 ^^^ 2 ^ j), sI M0 r 1 (nI (D (10 + D 7 0) 1 ^^^ 2 ^ j)), N1, D', ?_, ?_, o4⟩
      · rw [isFree_in h hj, bnd_s, if_neg hb, if_neg (by decide), o1, bnd_s, wI_eq, o2, tie_or _ h.tied' j (by omega) (by simpa using hb), gI_sI, if_pos ⟨rfl, rfl⟩]
      · rw [isCord_at h (by rw [gI_sI, if_neg (by omega), p3 _ _ (by unfold lCS; omega)]) hj, bnd_s, if_neg (by decide), isTied_at h (by rw [gI_sI, if_neg (by omega), p3 _ _ (by unfold lCS; omega)]) (by omega), bnd_s, if_neg hb, if_pos rfl, o3, bnd_s]
  · refine ⟨-1, M, M, D, ?_, ?_, h⟩
    · rw [isFree_out h ho, bnd_s, if_pos rfl]
    · rw [isCord_out h ho, bnd_s, if_pos rfl]
theorem B_loose (a : Int32) : Both (f_C_loose a) (f_Mo_loose a) := by
  intro D M h
  unfold f_C_loose f_Mo_loose
  rcases in_cases a (D 0 1) (by have := nct h; omega) with ⟨j, hj, rfl⟩ | ho
  · have hnc := h.1.2.1
    by_cases hb : (D (10 + D 7 0) 1).testBit j = true
    · obtain ⟨M0, r, N1, D', o1, o2, hcell, p3, o3, o4⟩ := tie_act h hj
      refine ⟨nI (D (10 + D 7 0) 1 ^^^ 2 ^ j), sI M0 r 1 (nI (D (10 + D 7 0) 1 ^^^ 2 ^ j)), N1, D', ?_, ?_, o4⟩
      · rw [CisTied_in h hj, bnd_s, if_pos hb, if_neg (by decide), o1, bnd_s, wI_eq, o2, tie_and _ h.tied' j (by omega) hb, gI_sI, if_pos ⟨rfl, rfl⟩]
      · rw [isCord_at h (by rw [gI_sI, if_neg (by omega), p3 _ _ (by unfold lCS; omega)]) hj, bnd_s, if_neg (by decide), isTied_at h (by rw [gI_sI, if_neg (by omega), p3 _ _ (by unfold lCS; omega)]) (by omega), bnd_s, if_pos hb, if_neg (by decide), o3, bnd_s]
    · refine ⟨-1, M, M, D, ?_, ?_, h⟩
      · rw [CisTied_in h hj, bnd_s, if_neg hb, if_pos rfl]
      · rw [isCord_in h hj, bnd_s, if_neg (by decide), isTied_ok h (by omega), bnd_s, if_neg hb, if_pos rfl]
  · refine ⟨-1, M, M, D, ?_, ?_, h⟩
    · rw [CisTied_out h ho, bnd_s, if_pos rfl]
    · rw [isCord_out h ho, bnd_s, if_pos rfl]
