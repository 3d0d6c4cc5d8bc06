/-! brightest, dimmest, nearest -/
theorem brightestPicture_ok {D : DT} {M : AM} (h : Rel D M) : ∃ M1, f_Sets_brightestPicture (gR M 0 3) (gR M 39 (D 7 0)) M = some (bp (pbest D (fun p => -nI (pc p))), M1) ∧ Sm M M1 := by
  obtain ⟨M0, c1, c2, c3⟩ := clear_ok M
  have h256 := p2_le h.1.2.1
  have h256l := p2_le h.1.1
  have h0 := p2_pos (D 0 1)
  have hx : ∀ s, D (10 + D 7 0) 0 ^^^ xt (D 3) (D 0 1) s < 256 := fun s => Nat.lt_of_lt_of_le (Nat.xor_lt_two_pow h.pic (xt_lt h.1 s _ (Nat.le_refl _))) h256l
  have key := setsC h (f_Sets_brightestPicture_l9 (gR M 0 3) (gR M 39 (D 7 0))) 0 (Nat.zero_le _) (fun _ => True) (fun _ => inferInstanceAs (Decidable True)) (fun k => (fun p => -nI (pc p)) (D (10 + D 7 0) 0 ^^^ xt (D 3) (D 0 1) k)) (fun k => D (10 + D 7 0) 0 ^^^ xt (D 3) (D 0 1) k) (fun k => by have := hx k; omega) c3 c2
  have hgr : ∀ N, Sm M N → gR N 0 3 = gR M 0 3 := fun N hN => hN.1 0 3
  generalize gR M 0 3 = p at *
  generalize gR M 39 (D 7 0) = r at *
  obtain ⟨o, M1, k1, k2, k3, k4⟩ := key
    (fun k z N h1 h2 hN hv hR hc => by
      obtain ⟨v1, v2, v3, v4, v5, v6, v7⟩ := hv
      show f_Sets_brightestPicture_b9 (f_Sets_brightestPicture_l9 p r z) p r (nI k) N = _
      unfold f_Sets_brightestPicture_b9
      rw [v1, bnd_s, if_neg (sets_go (by omega) h2), v3, if_neg (fun q => hc ⟨(and_zero_I (by omega)).mp q, trivial⟩), nI_1])
    (fun k z N h1 h2 hN hv hR hb hA => by
      obtain ⟨v1, v2, v3, v4, v5, v6, v7⟩ := hv
      have hxk := hx k
      show f_Sets_brightestPicture_b9 (f_Sets_brightestPicture_l9 p r z) p r (nI k) N = _
      unfold f_Sets_brightestPicture_b9
      rw [v1, bnd_s, if_neg (sets_go (by omega) h2), v3, if_pos ((and_zero_I (by omega)).mpr hb), ald_nI (by omega) (by decide), v4 k h2, v2, nx_xor, bc_ok hxk, bnd_s, nI_1])
    (fun z N hN hv hR => by
      obtain ⟨v1, v2, v3, v4, v5, v6, v7⟩ := hv
      show f_Sets_brightestPicture_b9 (f_Sets_brightestPicture_l9 p r z) p r (nI (2 ^ D 0 1)) N = _
      unfold f_Sets_brightestPicture_b9
      rw [v1, bnd_s, if_pos (sets_stop (by omega) h0)])
  refine ⟨M1, ?_, k4⟩
  have ho := pbest_ok h (fun p => -nI (pc p)) k1
  unfold f_Sets_brightestPicture
  rw [nI_0] at k3
  rw [c1, bnd_s, k3, bnd_s, k2.1, ho]
theorem Mo_brightest_l {D : DT} {M N : AM} (h : Rel D M) (hN : Rel D N) (hT : THR (thp D) N) (b : Int32) : f_Mo_brightest_l20 b fu (-1) 0 N = some (bp (pbest D (fun p => -nI (pc p))), N) := by
  have h256l := p2_le h.1.1
  have h0 : (0 : Int32) = nI 0 := rfl
  rw [h0]
  refine scan_up (f_Mo_brightest_l20 b) 0 256 (pcd D (fun p => -nI (pc p))) (Nat.zero_le _) (by decide) rfl (fun k z v h1 h2 hc => ?_) (fun k z s h1 h2 hc => ?_) (fun k z s s0 p0 h1 h2 hc hp hc0 => ?_) (fun z v => ?_)
  · have q := pcd_none hc
    show f_Mo_brightest_b20 (f_Mo_brightest_l20 b z) b v (nI k) N = _
    unfold f_Mo_brightest_b20
    rw [nI_lit 256, if_neg (nI_ge h2 (by decide)), ald_nI h2 (by decide), hT k h2, if_neg q, if_pos rfl, nI_1]
  · have q := pcd_some hc
    show f_Mo_brightest_b20 (f_Mo_brightest_l20 b z) b (-1) (nI k) N = _
    unfold f_Mo_brightest_b20
    rw [nI_lit 256, if_neg (nI_ge h2 (by decide)), ald_nI h2 (by decide), hT k h2, if_pos q.1, if_neg (by decide), if_pos (by decide), nI_1]
  · have q := pcd_some hc
    have q0 := pcd_some hc0
    have l1 := pc_le k
    have l2 := pc_le p0
    show f_Mo_brightest_b20 (f_Mo_brightest_l20 b z) b (nI p0) (nI k) N = _
    unfold f_Mo_brightest_b20
    rw [nI_lit 256, if_neg (nI_ge h2 (by decide)), ald_nI h2 (by decide), hT k h2, if_pos q.1, if_neg (by decide), if_neg (nI_pos (by omega)), members_ok (by omega), bnd_s, members_ok (by omega), bnd_s, nI_1, q.2, q0.2]
    by_cases w : pc k ≤ pc p0
    · rw [if_pos (nI_le w (by omega)), if_neg (fun y => by have := (neg_lt_I (by omega) (by omega)).mp y; omega)]
    · rw [if_neg (nI_ge (by omega) (by omega)), if_pos ((neg_lt_I (by omega) (by omega)).mpr (by omega))]
  · show f_Mo_brightest_b20 (f_Mo_brightest_l20 b z) b v (nI 256) N = _
    unfold f_Mo_brightest_b20
    rw [nI_lit 256, if_pos (nI_le (Nat.le_refl _) (by decide))]
theorem ws_le {w : Nat → Nat} (s : Nat) : ∀ k, (∀ j, j < k → w j ≤ 99) → ws w s k ≤ 99 * k := by
  intro k
  induction k with
  | zero => intro _; exact Nat.le_refl _
  | succ k ih =>
    intro hk
    have h1 := ih (fun j hj => hk j (by omega))
    have h2 := hk k (by omega)
    have h3 : s / 2 ^ k % 2 ≤ 1 := by omega
    have h4 : s / 2 ^ k % 2 * w k ≤ 1 * w k := Nat.mul_le_mul_right _ h3
    show ws w s k + (s / 2 ^ k % 2) * w k ≤ _
    omega
theorem ws_792 {D : DT} (ho : okP D) (s : Nat) : ws (D 1) s (D 0 0) ≤ 792 := by
  have := ws_le (w := D 1) s (D 0 0) (fun j hj => (ho.2.2.2.2.2.2.1 j hj).1)
  have := ho.1
  omega
theorem dimmestPicture_ok {D : DT} {M : AM} (h : Rel D M) : ∃ M1, f_Sets_dimmestPicture (gR M 0 3) (gR M 39 (D 7 0)) M = some (bp (pbest D (fun p => nI (ws (D 1) p (D 0 0)))), M1) ∧ Sm M M1 := by
  obtain ⟨M0, c1, c2, c3⟩ := clear_ok M
  have h256 := p2_le h.1.2.1
  have h256l := p2_le h.1.1
  have h0 := p2_pos (D 0 1)
  have hx : ∀ s, D (10 + D 7 0) 0 ^^^ xt (D 3) (D 0 1) s < 256 := fun s => Nat.lt_of_lt_of_le (Nat.xor_lt_two_pow h.pic (xt_lt h.1 s _ (Nat.le_refl _))) h256l
  have key := setsC h (f_Sets_dimmestPicture_l9 (gR M 0 3) (gR M 39 (D 7 0))) 0 (Nat.zero_le _) (fun _ => True) (fun _ => inferInstanceAs (Decidable True)) (fun k => (fun p => nI (ws (D 1) p (D 0 0))) (D (10 + D 7 0) 0 ^^^ xt (D 3) (D 0 1) k)) (fun k => D (10 + D 7 0) 0 ^^^ xt (D 3) (D 0 1) k) (fun k => by have := hx k; omega) c3 c2
  have hgr : ∀ N, Sm M N → gR N 0 3 = gR M 0 3 := fun N hN => hN.1 0 3
  generalize gR M 0 3 = p at *
  generalize gR M 39 (D 7 0) = r at *
  obtain ⟨o, M1, k1, k2, k3, k4⟩ := key
    (fun k z N h1 h2 hN hv hR hc => by
      obtain ⟨v1, v2, v3, v4, v5, v6, v7⟩ := hv
      show f_Sets_dimmestPicture_b9 (f_Sets_dimmestPicture_l9 p r z) p r (nI k) N = _
      unfold f_Sets_dimmestPicture_b9
      rw [v1, bnd_s, if_neg (sets_go (by omega) h2), v3, if_neg (fun q => hc ⟨(and_zero_I (by omega)).mp q, trivial⟩), nI_1])
    (fun k z N h1 h2 hN hv hR hb hA => by
      obtain ⟨v1, v2, v3, v4, v5, v6, v7⟩ := hv
      have hxk := hx k
      have hpr := Plan_wattsOf_ok hR (a := D (10 + D 7 0) 0 ^^^ xt (D 3) (D 0 1) k) (by omega)
      rw [hgr N hN] at hpr
      show f_Sets_dimmestPicture_b9 (f_Sets_dimmestPicture_l9 p r z) p r (nI k) N = _
      unfold f_Sets_dimmestPicture_b9
      rw [v1, bnd_s, if_neg (sets_go (by omega) h2), v3, if_pos ((and_zero_I (by omega)).mpr hb), ald_nI (by omega) (by decide), v4 k h2, v2, nx_xor, hpr, bnd_s, nI_1])
    (fun z N hN hv hR => by
      obtain ⟨v1, v2, v3, v4, v5, v6, v7⟩ := hv
      show f_Sets_dimmestPicture_b9 (f_Sets_dimmestPicture_l9 p r z) p r (nI (2 ^ D 0 1)) N = _
      unfold f_Sets_dimmestPicture_b9
      rw [v1, bnd_s, if_pos (sets_stop (by omega) h0)])
  refine ⟨M1, ?_, k4⟩
  have ho := pbest_ok h (fun p => nI (ws (D 1) p (D 0 0))) k1
  unfold f_Sets_dimmestPicture
  rw [nI_0] at k3
  rw [c1, bnd_s, k3, bnd_s, k2.1, ho]
theorem Mo_dimmest_l {D : DT} {M N : AM} (h : Rel D M) (hN : Rel D N) (hT : THR (thp D) N) (b : Int32) : f_Mo_dimmest_l20 b fu (-1) 0 N = some (bp (pbest D (fun p => nI (ws (D 1) p (D 0 0)))), N) := by
  have h256l := p2_le h.1.1
  have h0 : (0 : Int32) = nI 0 := rfl
  rw [h0]
  refine scan_up (f_Mo_dimmest_l20 b) 0 256 (pcd D (fun p => nI (ws (D 1) p (D 0 0)))) (Nat.zero_le _) (by decide) rfl (fun k z v h1 h2 hc => ?_) (fun k z s h1 h2 hc => ?_) (fun k z s s0 p0 h1 h2 hc hp hc0 => ?_) (fun z v => ?_)
  · have q := pcd_none hc
    show f_Mo_dimmest_b20 (f_Mo_dimmest_l20 b z) b v (nI k) N = _
    unfold f_Mo_dimmest_b20
    rw [nI_lit 256, if_neg (nI_ge h2 (by decide)), ald_nI h2 (by decide), hT k h2, if_neg q, if_pos rfl, nI_1]
  · have q := pcd_some hc
    show f_Mo_dimmest_b20 (f_Mo_dimmest_l20 b z) b (-1) (nI k) N = _
    unfold f_Mo_dimmest_b20
    rw [nI_lit 256, if_neg (nI_ge h2 (by decide)), ald_nI h2 (by decide), hT k h2, if_pos q.1, if_neg (by decide), if_pos (by decide), nI_1]
  · have q := pcd_some hc
    have q0 := pcd_some hc0
    have l1 := ws_792 h.1 k
    have l2 := ws_792 h.1 p0
    show f_Mo_dimmest_b20 (f_Mo_dimmest_l20 b z) b (nI p0) (nI k) N = _
    unfold f_Mo_dimmest_b20
    rw [nI_lit 256, if_neg (nI_ge h2 (by decide)), ald_nI h2 (by decide), hT k h2, if_pos q.1, if_neg (by decide), if_neg (nI_pos (by omega)), Mo_wattsOf_ok hN (by omega), bnd_s, Mo_wattsOf_ok hN (by omega), bnd_s, nI_1, q.2, q0.2]
    by_cases w : ws (D 1) p0 (D 0 0) ≤ ws (D 1) k (D 0 0)
    · rw [if_pos (nI_le w (by omega)), if_neg (nI_nlt w (by omega))]
    · rw [if_neg (nI_ge (by omega) (by omega)), if_pos (nI_lt (by omega) (by omega))]
  · show f_Mo_dimmest_b20 (f_Mo_dimmest_l20 b z) b v (nI 256) N = _
    unfold f_Mo_dimmest_b20
    rw [nI_lit 256, if_pos (nI_le (Nat.le_refl _) (by decide))]
theorem nearestPicture_ok {D : DT} {M : AM} (h : Rel D M) {t : Nat} (ht : t < 256) : ∃ M1, f_Sets_nearestPicture (gR M 0 3) (gR M 39 (D 7 0)) (nI t) M = some (bp (pbest D (fun p => nI (pc (p ^^^ t)))), M1) ∧ Sm M M1 := by
  obtain ⟨M0, c1, c2, c3⟩ := clear_ok M
  have h256 := p2_le h.1.2.1
  have h256l := p2_le h.1.1
  have h0 := p2_pos (D 0 1)
  have hx : ∀ s, D (10 + D 7 0) 0 ^^^ xt (D 3) (D 0 1) s < 256 := fun s => Nat.lt_of_lt_of_le (Nat.xor_lt_two_pow h.pic (xt_lt h.1 s _ (Nat.le_refl _))) h256l
  have key := setsC h (f_Sets_nearestPicture_l10 (gR M 0 3) (gR M 39 (D 7 0)) (nI t)) 0 (Nat.zero_le _) (fun _ => True) (fun _ => inferInstanceAs (Decidable True)) (fun k => (fun p => nI (pc (p ^^^ t))) (D (10 + D 7 0) 0 ^^^ xt (D 3) (D 0 1) k)) (fun k => D (10 + D 7 0) 0 ^^^ xt (D 3) (D 0 1) k) (fun k => by have := hx k; omega) c3 c2
  have hgr : ∀ N, Sm M N → gR N 0 3 = gR M 0 3 := fun N hN => hN.1 0 3
  generalize gR M 0 3 = p at *
  generalize gR M 39 (D 7 0) = r at *
  obtain ⟨o, M1, k1, k2, k3, k4⟩ := key
    (fun k z N h1 h2 hN hv hR hc => by
      obtain ⟨v1, v2, v3, v4, v5, v6, v7⟩ := hv
      show f_Sets_nearestPicture_b10 (f_Sets_nearestPicture_l10 p r (nI t) z) p r (nI t) (nI k) N = _
      unfold f_Sets_nearestPicture_b10
      rw [v1, bnd_s, if_neg (sets_go (by omega) h2), v3, if_neg (fun q => hc ⟨(and_zero_I (by omega)).mp q, trivial⟩), nI_1])
    (fun k z N h1 h2 hN hv hR hb hA => by
      obtain ⟨v1, v2, v3, v4, v5, v6, v7⟩ := hv
      have hxk := hx k
      have hxt : (D (10 + D 7 0) 0 ^^^ xt (D 3) (D 0 1) k) ^^^ t < 256 := Nat.xor_lt_two_pow (n := 8) hxk ht
      show f_Sets_nearestPicture_b10 (f_Sets_nearestPicture_l10 p r (nI t) z) p r (nI t) (nI k) N = _
      unfold f_Sets_nearestPicture_b10
      rw [v1, bnd_s, if_neg (sets_go (by omega) h2), v3, if_pos ((and_zero_I (by omega)).mpr hb), ald_nI (by omega) (by decide), v4 k h2, v2, nx_xor, nx_xor, bc_ok hxt, bnd_s, nI_1])
    (fun z N hN hv hR => by
      obtain ⟨v1, v2, v3, v4, v5, v6, v7⟩ := hv
      show f_Sets_nearestPicture_b10 (f_Sets_nearestPicture_l10 p r (nI t) z) p r (nI t) (nI (2 ^ D 0 1)) N = _
      unfold f_Sets_nearestPicture_b10
      rw [v1, bnd_s, if_pos (sets_stop (by omega) h0)])
  refine ⟨M1, ?_, k4⟩
  have ho := pbest_ok h (fun p => nI (pc (p ^^^ t))) k1
  unfold f_Sets_nearestPicture
  rw [nI_0] at k3
  rw [c1, bnd_s, k3, bnd_s, k2.1, ho]
theorem Mo_nearest_l {D : DT} {M N : AM} (h : Rel D M) {t : Nat} (ht : t < 256) (hN : Rel D N) (hT : THR (thp D) N) (b : Int32) : f_Mo_nearest_l29 (nI t) b fu (-1) 0 N = some (bp (pbest D (fun p => nI (pc (p ^^^ t)))), N) := by
  have h256l := p2_le h.1.1
  have h0 : (0 : Int32) = nI 0 := rfl
  rw [h0]
  refine scan_up (f_Mo_nearest_l29 (nI t) b) 0 256 (pcd D (fun p => nI (pc (p ^^^ t)))) (Nat.zero_le _) (by decide) rfl (fun k z v h1 h2 hc => ?_) (fun k z s h1 h2 hc => ?_) (fun k z s s0 p0 h1 h2 hc hp hc0 => ?_) (fun z v => ?_)
  · have q := pcd_none hc
    show f_Mo_nearest_b29 (f_Mo_nearest_l29 (nI t) b z) (nI t) b v (nI k) N = _
    unfold f_Mo_nearest_b29
    rw [nI_lit 256, if_neg (nI_ge h2 (by decide)), ald_nI h2 (by decide), hT k h2, if_neg q, if_pos rfl, nI_1]
  · have q := pcd_some hc
    show f_Mo_nearest_b29 (f_Mo_nearest_l29 (nI t) b z) (nI t) b (-1) (nI k) N = _
    unfold f_Mo_nearest_b29
    rw [nI_lit 256, if_neg (nI_ge h2 (by decide)), ald_nI h2 (by decide), hT k h2, if_pos q.1, if_neg (by decide), if_pos (by decide), nI_1]
  · have q := pcd_some hc
    have q0 := pcd_some hc0
    have l1 := pc_le (k ^^^ t)
    have l2 := pc_le (p0 ^^^ t)
    have x1 : k ^^^ t < 256 := Nat.xor_lt_two_pow (n := 8) h2 ht
    have x2 : p0 ^^^ t < 256 := Nat.xor_lt_two_pow (n := 8) (show p0 < 2 ^ 8 by omega) ht
    show f_Mo_nearest_b29 (f_Mo_nearest_l29 (nI t) b z) (nI t) b (nI p0) (nI k) N = _
    unfold f_Mo_nearest_b29
    rw [nI_lit 256, if_neg (nI_ge h2 (by decide)), ald_nI h2 (by decide), hT k h2, if_pos q.1, if_neg (by decide), if_neg (nI_pos (by omega)), nx_xor, members_ok (by omega), bnd_s, nx_xor, members_ok (by omega), bnd_s, nI_1, q.2, q0.2]
    by_cases w : pc (p0 ^^^ t) ≤ pc (k ^^^ t)
    · rw [if_pos (nI_le w (by omega)), if_neg (nI_nlt w (by omega))]
    · rw [if_neg (nI_ge (by omega) (by omega)), if_pos (nI_lt (by omega) (by omega))]
  · show f_Mo_nearest_b29 (f_Mo_nearest_l29 (nI t) b z) (nI t) b v (nI 256) N = _
    unfold f_Mo_nearest_b29
    rw [nI_lit 256, if_pos (nI_le (Nat.le_refl _) (by decide))]
theorem B_brightest (b : Int32) : Both (f_C_brightest b) (f_Mo_brightest b) := by
  refine Both.of (fun D => an2 b (fun p => nI (pc p)) (pbest D (fun p => -nI (pc p)))) (fun D M h => ?_) (fun D M h => ?_)
  · obtain ⟨M1, k1, k2⟩ := brightestPicture_ok h
    obtain ⟨q, e1, e2, e3⟩ := pbest_some h (fun p => -nI (pc p))
    refine ⟨M1, ?_, k2⟩
    unfold f_C_brightest
    rw [ckK_eq (pl_kd h), cur_ok h, bnd_s, k1, bnd_s, e1]
    show bnd (f_Int_bitCount (nI q.2) M1) _ = _
    rw [bc_ok e2, bnd_s]
    show bnd (f_C_either b (nI (pc q.2)) (nI q.2) M1) _ = _
    rw [either_eq, bnd_s]
    rfl
  · unfold f_Mo_brightest
    rw [isIn01, bnd_s]
    obtain ⟨q, e1, e2, e3⟩ := pbest_some h (fun p => -nI (pc p))
    by_cases h01 : b = 0 ∨ b = 1
    · obtain ⟨M1, k1, k2, k3⟩ := pictures_ok h
      refine ⟨M1, ?_, k2⟩
      rw [if_pos h01, if_neg (by decide), k1, bnd_s, Mo_brightest_l h (h.sm k2) k3, bnd_s, e1]
      show (if b = 0 then bnd (f_Mo_members (nI q.2) M1) _ else some (nI q.2, M1)) = some (if b = 0 then nI (pc q.2) else if b = 1 then nI q.2 else -1, M1)
      rw [members_ok (by omega), bnd_s]
      by_cases h0 : b = 0
      · rw [if_pos h0, if_pos h0]
      · rw [if_neg h0, if_neg h0, if_pos (h01.resolve_left h0)]
    · refine ⟨M, ?_, Sm.rfl'⟩
      rw [if_neg h01, if_pos rfl, e1]
      show _ = some (if b = 0 then nI (pc q.2) else if b = 1 then nI q.2 else -1, M)
      rw [if_neg (fun q => h01 (Or.inl q)), if_neg (fun q => h01 (Or.inr q))]
theorem B_dimmest (b : Int32) : Both (f_C_dimmest b) (f_Mo_dimmest b) := by
  refine Both.of (fun D => an2 b (fun p => nI (ws (D 1) p (D 0 0))) (pbest D (fun p => nI (ws (D 1) p (D 0 0))))) (fun D M h => ?_) (fun D M h => ?_)
  · obtain ⟨M1, k1, k2⟩ := dimmestPicture_ok h
    obtain ⟨q, e1, e2, e3⟩ := pbest_some h (fun p => nI (ws (D 1) p (D 0 0)))
    refine ⟨M1, ?_, k2⟩
    unfold f_C_dimmest
    rw [ckK_eq (pl_kd h), cur_ok h, bnd_s, k1, bnd_s, e1, ckK_eq (pl_kd (h.sm k2))]
    show bnd (f_Plan_wattsOf (gR M1 0 3) (nI q.2) M1) _ = _
    rw [Plan_wattsOf_ok (h.sm k2) (by omega), bnd_s]
    show bnd (f_C_either b (nI (ws (D 1) q.2 (D 0 0))) (nI q.2) M1) _ = _
    rw [either_eq, bnd_s]
    rfl
  · unfold f_Mo_dimmest
    rw [isIn01, bnd_s]
    obtain ⟨q, e1, e2, e3⟩ := pbest_some h (fun p => nI (ws (D 1) p (D 0 0)))
    by_cases h01 : b = 0 ∨ b = 1
    · obtain ⟨M1, k1, k2, k3⟩ := pictures_ok h
      refine ⟨M1, ?_, k2⟩
      rw [if_pos h01, if_neg (by decide), k1, bnd_s, Mo_dimmest_l h (h.sm k2) k3, bnd_s, e1]
      show (if b = 0 then bnd (f_Mo_wattsOf (nI q.2) M1) _ else some (nI q.2, M1)) = some (if b = 0 then nI (ws (D 1) q.2 (D 0 0)) else if b = 1 then nI q.2 else -1, M1)
      rw [Mo_wattsOf_ok (h.sm k2) (by omega), bnd_s]
      by_cases h0 : b = 0
      · rw [if_pos h0, if_pos h0]
      · rw [if_neg h0, if_neg h0, if_pos (h01.resolve_left h0)]
    · refine ⟨M, ?_, Sm.rfl'⟩
      rw [if_neg h01, if_pos rfl, e1]
      show _ = some (if b = 0 then nI (ws (D 1) q.2 (D 0 0)) else if b = 1 then nI q.2 else -1, M)
      rw [if_neg (fun q => h01 (Or.inl q)), if_neg (fun q => h01 (Or.inr q))]
theorem B_nearest (a b : Int32) : Both (f_C_nearest a b) (f_Mo_nearest a b) := by
  by_cases hneg : a < 0
  · refine Both.pure fun D M h => ⟨-1, ?_, ?_⟩
    · unfold f_C_nearest
      rw [ckK_eq (pl_kd h), hasPicture_out h (Or.inl hneg), bnd_s, if_pos rfl]
    · unfold f_Mo_nearest
      rw [isPicture_out h (Or.inl hneg), bnd_s, if_pos rfl]
  · obtain ⟨t, ht31, rfl⟩ := nI_of hneg
    refine Both.of (fun D => if t < 2 ^ D 0 0 then an2 b (fun p => nI (pc (p ^^^ t))) (pbest D (fun p => nI (pc (p ^^^ t)))) else -1) (fun D M h => ?_) (fun D M h => ?_)
    · have h256 := p2_le h.1.1
      unfold f_C_nearest
      by_cases ht : t < 2 ^ D 0 0
      · obtain ⟨M1, k1, k2⟩ := nearestPicture_ok h (t := t) (by omega)
        obtain ⟨q, e1, e2, e3⟩ := pbest_some h (fun p => nI (pc (p ^^^ t)))
        refine ⟨M1, ?_, k2⟩
        rw [ckK_eq (pl_kd h), hasPicture_in h ht, bnd_s, if_neg (by decide), ckK_eq (pl_kd h), cur_ok h, bnd_s, k1, bnd_s, e1, if_pos ht]
        show bnd (f_Int_bitCount (nI q.2 ^^^ nI t) M1) _ = _
        rw [nx_xor, bc_ok (Nat.xor_lt_two_pow (n := 8) e2 (by omega)), bnd_s]
        show bnd (f_C_either b (nI (pc (q.2 ^^^ t))) (nI q.2) M1) _ = _
        rw [either_eq, bnd_s]
        rfl
      · refine ⟨M, ?_, Sm.rfl'⟩
        rw [ckK_eq (pl_kd h), hasPicture_out h (Or.inr (nI_le (by omega) ht31)), bnd_s, if_pos rfl, if_neg ht]
    · have h256 := p2_le h.1.1
      unfold f_Mo_nearest
      by_cases ht : t < 2 ^ D 0 0
      · rw [isPicture_in h ht, bnd_s, if_neg (by decide), isIn01, bnd_s, if_pos ht]
        obtain ⟨q, e1, e2, e3⟩ := pbest_some h (fun p => nI (pc (p ^^^ t)))
        by_cases h01 : b = 0 ∨ b = 1
        · obtain ⟨M1, k1, k2, k3⟩ := pictures_ok h
          refine ⟨M1, ?_, k2⟩
          rw [if_pos h01, if_neg (by decide), k1, bnd_s, Mo_nearest_l h (by omega) (h.sm k2) k3, bnd_s, e1]
          show (if b = 0 then bnd (f_Mo_members (nI q.2 ^^^ nI t) M1) _ else some (nI q.2, M1)) = some (if b = 0 then nI (pc (q.2 ^^^ t)) else if b = 1 then nI q.2 else -1, M1)
          have hqt : q.2 ^^^ t < 256 := Nat.xor_lt_two_pow (n := 8) e2 (by omega)
          rw [nx_xor, members_ok (by omega), bnd_s]
          by_cases h0 : b = 0
          · rw [if_pos h0, if_pos h0]
          · rw [if_neg h0, if_neg h0, if_pos (h01.resolve_left h0)]
        · refine ⟨M, ?_, Sm.rfl'⟩
          rw [if_neg h01, if_pos rfl, e1]
          show _ = some (if b = 0 then nI (pc (q.2 ^^^ t)) else if b = 1 then nI q.2 else -1, M)
          rw [if_neg (fun q => h01 (Or.inl q)), if_neg (fun q => h01 (Or.inr q))]
      · refine ⟨M, ?_, Sm.rfl'⟩
        rw [isPicture_out h (Or.inr (nI_le (by omega) ht31)), bnd_s, if_pos rfl, if_neg ht]
