theorem members_at {a : Nat} (h : a < 2 ^ 31) (M : AM) : f_Mo_members (nI a) M = some (nI (pc a), M) := members_ok h M
theorem B_pull (a : Int32) : Both (f_C_pull a) (f_Mo_pull a) := by
  intro D M h
  obtain ⟨ok, hC, hM, hB, hT, hS, hL⟩ := h.parts
  unfold f_C_pull f_Mo_pull
  rcases in_cases a (D 0 1) (by have := nct h; omega) with ⟨j, hj, rfl⟩ | ho
  · have hnc := h.1.2.1
    by_cases hb : (D (10 + D 7 0) 1).testBit j = true
    · refine ⟨-1, M, M, D, ?_, ?_, h⟩
      · rw [isFree_in h hj, bnd_s, if_pos hb, if_pos rfl]
      · rw [isCord_in h hj, bnd_s, if_neg (by decide), isTied_ok h (by omega), bnd_s, if_pos hb, if_neg (by decide)]
    · have hl := opn_le h.le40
      have hturn := (h.1.2.2.2.2.2.2.2.1 j hj).1
      have hcost := (h.1.2.2.2.2.2.2.2.1 j hj).2
      have h256 := p2_le h.1.1
      generalize hv : D (10 + D 7 0) 0 ^^^ D 3 j = v
      have hvl : v < 2 ^ D 0 0 := by rw [← hv]; exact Nat.xor_lt_two_pow h.pic hturn
      have hleast : D 0 3 ≤ 8 := h.1.2.2.2.1
      have hpc := pc_le v
      have c1 : gI M (gR M 39 (D 7 0)) 0 = nI (D (10 + D 7 0) 0) := cst h (by decide)
      have ct : gI M (gR M 0 3 + 6) j = nI (D 3 j) := (h.2.2.2.1.2.2.1 j hj).1
      have cc : gI M (gR M 0 3 + 7) j = nI (D 4 j) := (h.2.2.2.1.2.2.1 j hj).2
      have cl : gI M (gR M 0 3) 14 = nI (D 0 3) := h.2.2.2.1.1.2.2.2.1
      have mt : gI M 121 j = nI (D 3 j) := (h.2.2.2.2.2.1.2.2.1 j hj).1
      have mc : gI M 122 j = nI (D 4 j) := (h.2.2.2.2.2.1.2.2.1 j hj).2
      have ml : gI M 105 44 = nI (D 0 3) := h.2.2.2.2.2.1.1.2.2.2.1
      by_cases hge : D 0 3 ≤ pc v
      · obtain ⟨M0, o1, o2, o3, o4⟩ := open_ok hC h.le
        have hcell := o2.2.2.1 (opn D 7 0) (by omega)
        have hcur : ∀ i, i < 5 → gI M0 (gR M0 39 (opn D 7 0)) i = nI (D (10 + D 7 0) i) := fun i hi => by rw [o2.2.2.2.2 _ i hl.1 hi, opn_cur h.le40]
        generalize hr : gR M0 39 (opn D 7 0) = r at hcell hcur o1
        generalize hM1 : sI (sI M0 r 0 (nI v)) r 2 (nI (D (10 + D 7 0) 2 + D 4 j)) = M1
        have fM1 : ∀ c k, ¬ lCS c k → gI M1 c k = gI M c k := fun c k q => by
          rw [← hM1, gI_sI, if_neg (fun z => q (by unfold lCS; omega)), gI_sI, if_neg (fun z => q (by unfold lCS; omega)), o3 c k q]
        have hM1' : MST D M1 := hM.cg (fun c k q => fM1 c k (by unfold lMS at q; unfold lCS; omega))
        obtain ⟨N0, p1, p2, p3, p4⟩ := act_ok hM1' h.le
        have hn : ∀ i, i < 5 → gI N0 123 i = nI (D (10 + D 7 0) i) := fun i hi => by rw [p2.2.2.1 i hi, opn_cur h.le40]
        have n121 : gI N0 121 j = nI (D 3 j) := by rw [p3 _ _ (by unfold lMS; omega), fM1 _ _ (by unfold lCS; omega)]; exact mt
        have n122 : gI N0 122 j = nI (D 4 j) := by rw [p3 _ _ (by unfold lMS; omega), fM1 _ _ (by unfold lCS; omega)]; exact mc
        have hor := h.2.2.1.or
        refine ⟨nI v, M1, sI (sI N0 123 0 (nI v)) 123 2 (nI (D (10 + D 7 0) 2 + D 4 j)), setc (opn D) (at1 (at1 (D (10 + D 7 0)) 0 v) 2 (D (10 + D 7 0) 2 + D 4 j)), ?_, ?_, ?_⟩
        · rw [isFree_in h hj, bnd_s, if_neg hb, if_neg (by decide), cur_ok h, bnd_s, ckK_eq (pl_kd h), ald_nI (by omega) (by decide), c1, ct, nx_xor, hv, bc_ok (by omega), bnd_s, ckK_eq (pl_kd h), cl, if_pos (nI_le hge (by omega)), o1, bnd_s, wI_eq]
          have e03 : gR (sI M0 r 0 (nI v)) 0 3 = gR M 0 3 := o4 0 3 (by decide)
          rw [e03, ckK_eq (pl_kd h), ald_nI (by omega) (by decide), wI_eq, show gI (sI M0 r 0 (nI v)) (gR M 0 3 + 7) j = nI (D 4 j) by rw [gI_sI, if_neg (by omega), o3 _ _ (by unfold lCS; omega)]; exact cc, show gI (sI M0 r 0 (nI v)) r 2 = nI (D (10 + D 7 0) 2) by rw [gI_sI, if_neg (by omega)]; exact hcur 2 (by decide), nI_add, hM1]
        · rw [isCord_at h (fM1 _ _ (by unfold lCS; omega)) hj, bnd_s, if_neg (by decide), isTied_at h (fM1 _ _ (by unfold lCS; omega)) (by omega), bnd_s, if_neg hb, if_pos rfl]
          rw [nI_lit 0, ald_nI (by decide) (by decide), ald_nI (by omega) (by decide), fM1 123 0 (by unfold lCS; omega), fM1 121 j (by unfold lCS; omega), now_ok h (by decide), mt, nx_xor, hv, members_ok (by omega), bnd_s, fM1 105 44 (by unfold lCS; omega), ml, if_pos (nI_le hge (by omega)), p1, bnd_s, ald_nI (by decide) (by decide), ald_nI (by omega) (by decide), hn 0 (by decide), n121, nx_xor, hv, ast_nI (by decide) (by decide)]
          rw [nI_lit 2, ald_nI (by decide) (by decide), ald_nI (by omega) (by decide), show gI (sI N0 123 0 (nI v)) 123 2 = nI (D (10 + D 7 0) 2) from hn 2 (by decide), show gI (sI N0 123 0 (nI v)) 122 j = nI (D 4 j) from n122, nI_add, ast_nI (by decide) (by decide), ald_nI (by decide) (by decide)]
          rfl
        · have hs := h.curS
          refine h.act' _ ?_ o2 o3 o4 (M1 := M1) (fun i hi => ?_) (fun c k q _ => ?_) (fun c k => ?_) p2 p3 p4 (fun i hi => ?_) (fun c k q _ => ?_) (fun c k => rfl) ?_
          · rw [at1_n (by decide), at1_s, at1_n (by decide), at1_n (by decide), at1_n (by decide), at1_n (by decide), at1_n (by decide), at1_n (by decide)]; exact ⟨hvl, hs.2⟩
          · rw [hr, ← hM1, gI_sI]
            by_cases h2 : i = 2
            · rw [if_pos ⟨rfl, h2⟩, h2, at1_s]
            · rw [if_neg (by omega), at1_n h2, gI_sI]
              by_cases h0 : i = 0
              · rw [if_pos ⟨rfl, h0⟩, h0, at1_s]
              · rw [if_neg (by omega), at1_n h0]; exact hcur i hi
          · rw [hr] at q
            rw [← hM1, gI_sI, if_neg (by omega), gI_sI, if_neg (by omega)]
          · rw [← hM1]; rfl
          · rw [gI_sI]
            by_cases h2 : i = 2
            · rw [if_pos ⟨rfl, h2⟩, h2, at1_s]
            · rw [if_neg (by omega), at1_n h2, gI_sI]
              by_cases h0 : i = 0
              · rw [if_pos ⟨rfl, h0⟩, h0, at1_s]
              · rw [if_neg (by omega), at1_n h0]; exact hn i hi
          · rw [gI_sI, if_neg (by omega), gI_sI, if_neg (by omega)]
          · exact CCH.keep h (fun c k q1 q2 => fM1 c k (by unfold lCS; omega))
      · refine ⟨-1, M, M, D, ?_, ?_, h⟩
        · rw [isFree_in h hj, bnd_s, if_neg hb, if_neg (by decide), cur_ok h, bnd_s, ckK_eq (pl_kd h), ald_nI (by omega) (by decide), c1, ct, nx_xor, hv, bc_ok (by omega), bnd_s, ckK_eq (pl_kd h), cl, if_neg (nI_ge (by omega) (by omega))]
        · rw [isCord_in h hj, bnd_s, if_neg (by decide), isTied_ok h (by omega), bnd_s, if_neg hb, if_pos rfl, now_ald h 0 0 rfl (by decide), ald_nI (by omega) (by decide), mt, nx_xor, hv, members_ok (by omega), bnd_s, ml, if_neg (nI_ge (by omega) (by omega))]
  · refine ⟨-1, M, M, D, ?_, ?_, h⟩
    · rw [isFree_out h ho, bnd_s, if_pos rfl]
    · rw [isCord_out h ho, bnd_s, if_pos rfl]
theorem B_redo : Both f_C_redo f_Mo_redo := by
  intro D M h
  obtain ⟨ok, hC, hM, hB, hT, hS, hL⟩ := h.parts
  unfold f_C_redo f_Mo_redo f_Acts_takeAgain
  have hd := ok.1
  have hk := ok.2.1
  by_cases h0 : D 7 0 = D 7 1
  · refine ⟨0, M, M, D, ?_, ?_, h⟩
    · rw [hC.1, hC.2.1, h0, if_neg (nI_nlt (Nat.le_refl _) (by omega))]; rfl
    · rw [hM.2.1, h0, Nat.sub_self, if_pos (by decide)]
  · obtain ⟨n, hn⟩ : ∃ n, D 7 0 = n := ⟨_, rfl⟩
    have c1 : gI M 38 1 = nI n := by rw [← hn]; exact hC.1
    have m1 : gI M 105 52 = nI n := by rw [← hn]; exact hM.1
    generalize hM1 : sI M 38 1 (nI (n + 1)) = M1
    have m2 : gI M1 105 52 = nI n := by rw [← hM1]; exact m1
    have m3 : gI M1 105 53 = nI (D 7 1 - n) := by rw [← hM1, ← hn]; exact hM.2.1
    generalize hM2 : xch M1 (5 * n) 5 = M2
    generalize hM' : sI (sI M2 105 52 (nI (n + 1))) 105 53 (nI (D 7 1 - (n + 1))) = M'
    have e7 : ∀ x, x ≠ 7 → rw1 D 7 (r7 (n + 1) (D 7 1)) x = D x := fun x hx => rw1_n hx
    have e70 : rw1 D 7 (r7 (n + 1) (D 7 1)) 7 0 = n + 1 := by rw [rw1_s]; rfl
    have e71 : rw1 D 7 (r7 (n + 1) (D 7 1)) 7 1 = D 7 1 := by rw [rw1_s]; rfl
    have i2 : ∀ c k, gI M2 c k = if c = 123 ∧ k < 5 then gI M 124 (5 * n + k) else if c = 124 ∧ 5 * n ≤ k ∧ k < 5 * n + 5 then gI M 123 (k - 5 * n) else if c = 38 ∧ k = 1 then nI (n + 1) else gI M c k := fun c k => by
      have a1 : ∀ x, gI M1 124 x = gI M 124 x := fun x => by rw [← hM1]; rfl
      have a2 : ∀ x, gI M1 123 x = gI M 123 x := fun x => by rw [← hM1]; rfl
      rw [← hM2, xch_I, a1, a2, ← hM1]; rfl
    refine ⟨1, M1, M', rw1 D 7 (r7 (n + 1) (D 7 1)), ?_, ?_, ?_⟩
    · rw [c1, hC.2.1, if_pos (nI_lt (by omega) (by omega)), wI_eq, nI_1, hM1]; rfl
    · rw [m3, if_neg (fun q => by have := (nI_eq (b := 0) (by omega) (by decide)).mp q; omega), m2, nI_lit 5, pk_mul, exch_ok _ (by omega), bnd_s, hM2, wI_eq, wI_eq, show gI M2 105 52 = nI n by rw [i2, if_neg (by omega), if_neg (by omega), if_neg (by omega)]; exact m1, nI_1, show gI (sI M2 105 52 (nI (n + 1))) 105 53 = nI (D 7 1 - n) by rw [gI_sI, if_neg (by omega), i2, if_neg (by omega), if_neg (by omega), if_neg (by omega), ← hn]; exact hM.2.1, nI_lit 1, pk_sub (by omega), show D 7 1 - n - 1 = D 7 1 - (n + 1) by omega, hM']
    · have g1 : ∀ c k, gI M' c k = if c = 105 ∧ k = 53 then nI (D 7 1 - (n + 1)) else if c = 105 ∧ k = 52 then nI (n + 1) else if c = 123 ∧ k < 5 then gI M 124 (5 * n + k) else if c = 124 ∧ 5 * n ≤ k ∧ k < 5 * n + 5 then gI M 123 (k - 5 * n) else if c = 38 ∧ k = 1 then nI (n + 1) else gI M c k := fun c k => by
        rw [← hM', gI_sI, gI_sI, i2]
      have g2 : ∀ c k, gR M' c k = gR M c k := fun c k => by rw [← hM', gR_sI, gR_sI, ← hM2, xch_R, ← hM1]; rfl
      refine h.state (fun c k q => ?_) (fun c k _ => g2 c k) (fun a ha => e7 a (by omega)) (by rw [e70, e71]; omega) (fun j hj => Or.inl (ok.2.2.1 j (by rw [e71] at hj; omega))) (fun j hj => (ok.2.2.1 j (by rw [e71] at hj; omega)).dg (e7 0 (by decide)) (e7 _ (by omega))) (fun b hb => ?_) ?_ ?_ ?_ ?_
      · rw [g1, if_neg, if_neg, if_neg, if_neg, if_neg] <;> (intro z; apply q; unfold WS lCS lMS; omega)
      · rw [e7 8 (by decide)]
        exact ⟨(ok.2.2.2.1 b hb).1, fun z => ((ok.2.2.2.1 b hb).2 z).dg (e7 0 (by decide)) (e7 _ (by omega))⟩
      · refine h.2.2.2.2.1.cg h.2.2.1.or (fun c k q => ?_)
        unfold lPL at q
        rw [g1, if_neg (by omega), if_neg (by omega), if_neg (by omega), if_neg (by omega), if_neg (by omega)]
      · refine ⟨?_, ?_, fun j hj => ?_, fun i j hi hj => ?_, fun j i hj hi => ?_⟩
        · rw [g1, e70]; rfl
        · rw [g1, e71]; exact hC.2.1
        · rw [g2]; exact hC.2.2.1 j hj
        · rw [g2, g2]; exact hC.2.2.2.1 i j hi hj
        · rw [e71] at hj
          have hc := hC.2.2.1 j (by omega)
          rw [g2, g1, if_neg (by omega), if_neg (by omega), if_neg (by omega), if_neg (by omega), if_neg (by omega), e7 _ (by omega)]
          exact hC.2.2.2.2 j i hj hi
      · refine ⟨?_, ?_, fun i hi => ?_, fun j i hj hi => ?_, fun j i h1 h2 hi => ?_⟩
        · rw [g1, e70]; rfl
        · rw [g1, e70, e71]; rfl
        · rw [e70, e7 _ (by omega), g1, if_neg (by omega), if_neg (by omega), if_pos (by omega)]
          exact hM.2.2.2.2 n i (by omega) (by omega) hi
        · rw [e70] at hj
          rw [g1, if_neg (by omega), if_neg (by omega), if_neg (by omega), e7 _ (by omega)]
          by_cases hjn : j = n
          · subst hjn
            rw [if_pos (by omega), show 5 * j + i - 5 * j = i by omega, hM.2.2.1 i hi, hn]
          · rw [if_neg (by omega), if_neg (by omega)]
            exact hM.2.2.2.1 j i (by omega) hi
        · rw [e70] at h1
          rw [e71] at h2
          rw [g1, if_neg (by omega), if_neg (by omega), if_neg (by omega), if_neg (by omega), if_neg (by omega), e7 _ (by omega)]
          exact hM.2.2.2.2 j i (by omega) h2 hi
      · refine (hB.cg (fun c k q => ?_) (fun j => g2 82 j)).dg (e7 8 (by decide)) (fun b hb => e7 _ (by omega))
        unfold lBX at q
        rw [g1, if_neg (by omega), if_neg (by omega), if_neg (by omega), if_neg (by omega), if_neg (by omega)]
