theorem cordsOf_mp {D : DT} {M : AM} (ho : okP D) (hm : MPL D M) {l : Nat} (hl : l < 32) : f_Mo_cordsOf (nI l) M = some (nI (tbf (D 3) l (D 0 1)), M) := by
  unfold f_Mo_cordsOf
  have hnc := ho.2.1
  have key : f_Mo_cordsOf_l4 (nI l) fu 0 0 M = some (nI (tbf (D 3) l (D 0 1)), M) := for_up (fun z (s : Int32 × Int32 × AM) => f_Mo_cordsOf_l4 (nI l) z s.1 s.2.1 s.2.2) (fun k => (nI (tbf (D 3) l k), nI k, M)) (D 0 1) _
    (fun k z hk => by
      show f_Mo_cordsOf_b4 (f_Mo_cordsOf_l4 (nI l) z) (nI l) (nI (tbf (D 3) l k)) (nI k) M = f_Mo_cordsOf_l4 (nI l) z (nI (tbf (D 3) l (k + 1))) (nI (k + 1)) M
      unfold f_Mo_cordsOf_b4
      have hc := hm.2.2.1 k hk
      have ht := (ho.2.2.2.2.2.2.2.1 k hk).1
      have := p2_le ho.1
      rw [hm.1.2.2.1, if_neg (nI_ge hk (by omega)), ald_nI (by omega) (by decide), hc.1, nx_bit (by omega) hl, nx_sh1 (by omega) (by omega), nx_or, nI_1]
      rfl)
    (fun z => by
      show f_Mo_cordsOf_b4 (f_Mo_cordsOf_l4 (nI l) z) (nI l) (nI (tbf (D 3) l (D 0 1))) (nI (D 0 1)) M = _
      unfold f_Mo_cordsOf_b4
      rw [hm.1.2.2.1, if_pos (nI_le (Nat.le_refl _) (by omega))]) (D 0 1) 0 fu (by omega) (by rw [fu_eq]; omega)
  rw [bnd_eq key]
theorem turnsAt_ok {D : DT} {M : AM} (ho : okP D) (hm : MPL D M) {l pic night : Nat} (hl : l < D 0 0) (hpic : pic < 2 ^ D 0 0) : ∃ M', f_Mo_turnsAt (nI l) (nI pic) (nI night) M = some (if trb D l (pic / 2 ^ l % 2) (pc (pic &&& D 2 l)) night = true then 1 else 0, M') ∧ (∀ c k, c ≠ 113 → c ≠ 114 → gI M' c k = gI M c k) ∧ ∀ c k, gR M' c k = gR M c k := by
  have hnl := ho.1
  have h256 := p2_le ho.1
  have h269 := ho.2.2.2.2.2.2.2.2.1
  obtain ⟨hnear, hand⟩ := ho.near hpic hl
  have htb : tbf (D 3) l (D 0 1) < 256 := Nat.lt_of_lt_of_le (tbf_lt _ _ _) (p2_le ho.2.1)
  unfold f_Mo_turnsAt
  rw [hm.1.2.2.2.2.2.2.2]
  by_cases h6 : D 0 6 = 0
  · refine ⟨M, ?_, fun c k _ _ => rfl, fun c k => rfl⟩
    rw [if_pos h6, if_pos rfl, if_neg]
    unfold trb
    simp [h6]
  · rw [if_neg h6, if_neg (by decide)]
    generalize hlite : pic / 2 ^ l % 2 = lit
    generalize hneare : pc (pic &&& D 2 l) = near
    generalize hM6 : sI (sI (sI (sI (sI (sI M 114 0 (nI lit)) 114 1 (nI near)) 114 2 (nI (pc (tbf (D 3) l (D 0 1))))) 114 3 (nI l)) 114 4 (nI (D 1 l))) 114 5 (nI night) = M6
    have i6 : ∀ c k, c ≠ 114 → gI M6 c k = gI M c k := fun c k hc => by
      rw [← hM6]
      simp only [gI_sI, hc, false_and, if_false]
    obtain ⟨N, w1, w2, w3, w4⟩ := turnsL_ok (M := M6) (g := gvn D l lit near night) (ho.f h6) (by rw [i6 _ _ (by omega)]; exact hm.1.2.2.2.2.2.2.1) (fun i hi => by rw [i6 _ _ (by omega), i6 _ _ (by omega)]; exact hm.2.2.2 i hi) (fun i hi => by
      rw [← hM6]
      obtain rfl | rfl | rfl | rfl | rfl | rfl : i = 0 ∨ i = 1 ∨ i = 2 ∨ i = 3 ∨ i = 4 ∨ i = 5 := by omega
      all_goals simp [gI_sI, gvn])
    have hm2 : MPL D (sI (sI M 114 0 (nI lit)) 114 1 (nI near)) := hm.cg (fun c k q => by unfold lMP at q; rw [gI_sI, if_neg (by omega), gI_sI, if_neg (by omega)])
    refine ⟨N, ?_, fun c k h1 h2 => (w3 c k h1).trans (i6 c k h2), fun c k => by rw [w4, ← hM6]; rfl⟩
    rw [nx_bit (by omega) (by omega), hlite, nI_lit 0, ast_nI (by decide) (by decide), ald_nI (by omega) (by decide), show gI (sI M 114 0 (nI lit)) 120 l = nI (D 2 l) from (hm.2.1 l hl).2, nx_and, members_ok (by omega), bnd_s, hneare]
    rw [nI_lit 1, ast_nI (by decide) (by decide), cordsOf_mp ho hm2 (by omega), bnd_s, members_ok (by omega), bnd_s]
    rw [nI_lit 2, ast_nI (by decide) (by decide), nI_lit 3, ast_nI (by decide) (by decide), ald_nI (by omega) (by decide)]
    rw [show gI (sI (sI (sI (sI M 114 0 (nI lit)) 114 1 (nI near)) 114 2 (nI (pc (tbf (D 3) l (D 0 1))))) 114 3 (nI l)) 119 l = nI (D 1 l) from (hm.2.1 l hl).1]
    rw [nI_lit 4, ast_nI (by decide) (by decide), nI_lit 5, ast_nI (by decide) (by decide), hM6, nI_0, w1, bnd_s, ← nI_0, ald_nI (by decide) (by decide), w2, nI_0]
    have hr6 : ((evs D (gvn D l lit near night) (D 0 6)).2 0 ≤ 0) ↔ ¬ trb D l lit near night = true := by
      rw [trb_iff]
      unfold trn
      rw [Int32.le_iff_toInt_le, Int32.lt_iff_toInt_lt]
      constructor
      · intro q z; omega
      · intro q
        by_cases z : (0 : Int32).toInt < ((evs D (gvn D l lit near night) (D 0 6)).2 0).toInt
        · exact absurd ⟨h6, z⟩ q
        · omega
    by_cases ht : trb D l lit near night = true
    · rw [if_neg (fun q => hr6.mp q ht), if_pos ht]
    · rw [if_pos (hr6.mpr ht), if_neg ht]
theorem duskOf_ok {D : DT} {M : AM} (ho : okP D) (hm : MPL D M) {pic night : Nat} (hpic : pic < 2 ^ D 0 0) : ∃ M', f_Mo_duskOf (nI pic) (nI night) M = some (nI (dsk D pic night), M') ∧ (∀ c k, c ≠ 113 → c ≠ 114 → gI M' c k = gI M c k) ∧ ∀ c k, gR M' c k = gR M c k := by
  have hnl := ho.1
  unfold f_Mo_duskOf
  have key : ∃ o, f_Mo_duskOf_l5 (nI pic) (nI night) fu (nI pic) 0 M = some o ∧ (o.1 = nI (dsk D pic night) ∧ (∀ c k, c ≠ 113 → c ≠ 114 → gI o.2 c k = gI M c k) ∧ ∀ c k, gR o.2 c k = gR M c k) := by
    refine for_inv (fun z (s : Int32 × Int32 × AM) => f_Mo_duskOf_l5 (nI pic) (nI night) z s.1 s.2.1 s.2.2) (fun k s => s.1 = nI (dk D pic night k) ∧ s.2.1 = nI k ∧ (∀ c k, c ≠ 113 → c ≠ 114 → gI s.2.2 c k = gI M c k) ∧ ∀ c k, gR s.2.2 c k = gR M c k) (D 0 0) _ (fun k s z hk hI => ?_) (fun s z hI => ?_) (D 0 0) 0 (nI pic, 0, M) fu (by omega) (by rw [fu_eq]; omega) ⟨rfl, rfl, fun c k _ _ => rfl, fun c k => rfl⟩
    · obtain ⟨v3, v4, N⟩ := s
      obtain ⟨rfl, rfl, i4, i5⟩ := hI
      simp only at i4 i5
      left
      have hm' : MPL D N := hm.cg (fun c k q => i4 c k (by unfold lMP at q; omega) (by unfold lMP at q; omega))
      obtain ⟨N', w1, w2, w3⟩ := turnsAt_ok (night := night) ho hm' hk hpic
      refine ⟨(nI (dk D pic night (k + 1)), nI (k + 1), N'), ⟨rfl, rfl, fun c k q1 q2 => (w2 c k q1 q2).trans (i4 c k q1 q2), fun c k => (w3 c k).trans (i5 c k)⟩, ?_⟩
      show f_Mo_duskOf_b5 (f_Mo_duskOf_l5 (nI pic) (nI night) z) (nI pic) (nI night) (nI (dk D pic night k)) (nI k) N = _
      unfold f_Mo_duskOf_b5
      rw [hm'.1.1, if_neg (nI_ge hk (by omega)), w1, bnd_s, truth_b, bnd_s, nI_1]
      have hdk : dk D pic night (k + 1) = dk D pic night k ^^^ (if trb D k (pic / 2 ^ k % 2) (pc (pic &&& D 2 k)) night = true then 2 ^ k else 0) := rfl
      show _ = f_Mo_duskOf_l5 (nI pic) (nI night) z (nI (dk D pic night (k + 1))) (nI (k + 1)) N'
      rw [hdk]
      by_cases ht : trb D k (pic / 2 ^ k % 2) (pc (pic &&& D 2 k)) night = true
      · rw [if_pos ht, if_pos ht, nx_one k (by omega), nx_xor]
      · rw [if_neg ht, if_neg ht, Nat.xor_zero, nI_lit 0, nx_sh1 (by omega) (by omega), nx_xor, Nat.zero_mul, Nat.xor_zero]
    · obtain ⟨v3, v4, N⟩ := s
      obtain ⟨rfl, rfl, i4, i5⟩ := hI
      refine ⟨(nI (dk D pic night (D 0 0)), N), ?_, rfl, i4, i5⟩
      show f_Mo_duskOf_b5 (f_Mo_duskOf_l5 (nI pic) (nI night) z) (nI pic) (nI night) (nI (dk D pic night (D 0 0))) (nI (D 0 0)) N = _
      unfold f_Mo_duskOf_b5
      rw [show gI N 105 41 = nI (D 0 0) by rw [i4 _ _ (by omega) (by omega)]; exact hm.1.1, if_pos (nI_le (Nat.le_refl _) (by omega))]
  obtain ⟨⟨v, N⟩, k1, k2, k3, k4⟩ := key
  simp only at k2
  exact ⟨N, by rw [k1, bnd_s, k2], k3, k4⟩
/-- the seed, and the gust -/
def nxs (s : Nat) : Nat := (s * 137 + 71) % 1000
def gst (D : DT) (pic s : Nat) : Nat := if D 0 0 = 0 then pic else if D 0 4 ≤ s % 100 then pic else pic ^^^ 2 ^ (s % D 0 0)
theorem nxs_lt (s : Nat) : nxs s < 1000 := Nat.mod_lt _ (by decide)
theorem gst_lt {D : DT} {pic s : Nat} (h : pic < 2 ^ D 0 0) : gst D pic s < 2 ^ D 0 0 := by
  unfold gst
  split
  · exact h
  · split
    · exact h
    · exact Nat.xor_lt_two_pow h (Nat.pow_lt_pow_right (by decide) (Nat.mod_lt _ (by omega)))
theorem gustyDusk_ok {D : DT} {M : AM} (ho : okP D) (hm : MPL D M) {pic night s : Nat} (hpic : pic < 2 ^ D 0 0) (hs : gI M 105 54 = nI s) (hs2 : s < 1000) : ∃ M', f_Mo_gustyDusk (nI pic) (nI night) M = some (nI (gst D (dsk D pic night) (nxs s)), M') ∧ gI M' 105 54 = nI (nxs s) ∧ (∀ c k, c ≠ 113 → c ≠ 114 → ¬ (c = 105 ∧ k = 54) → gI M' c k = gI M c k) ∧ ∀ c k, gR M' c k = gR M c k := by
  obtain ⟨N, w1, w2, w3⟩ := duskOf_ok (night := night) ho hm hpic
  have hnl := ho.1
  have hnx := nxs_lt s
  have hg := ho.2.2.2.2.1
  unfold f_Mo_gustyDusk
  generalize hN1 : sI N 105 54 (nI (nxs s)) = N1
  have e54 : gI N1 105 54 = nI (nxs s) := by rw [← hN1]; rfl
  have e45 : gI N1 105 45 = nI (D 0 4) := by rw [← hN1, gI_sI, if_neg (by omega), w2 _ _ (by omega) (by omega)]; exact hm.1.2.2.2.2.1
  have e41 : gI N1 105 41 = nI (D 0 0) := by rw [← hN1, gI_sI, if_neg (by omega), w2 _ _ (by omega) (by omega)]; exact hm.1.1
  refine ⟨N1, ?_, e54, fun c k q1 q2 q3 => ?_, fun c k => ?_⟩
  · rw [w1, bnd_s, wI_eq, w2 105 54 (by omega) (by omega), hs, nI_lit 137, pk_mul, nI_lit 71, nI_add, nI_lit 1000, nx_mod (by omega) (by decide) (by decide), show (s * 137 + 71) % 1000 = nxs s from rfl, hN1, e54, e45, e41, nI_lit 100, nx_mod (by omega) (by decide) (by decide)]
    unfold gst
    by_cases h0 : D 0 0 = 0
    · rw [if_pos h0, if_pos (show nI (D 0 0) ≤ 0 by rw [h0]; decide)]
      split <;> rfl
    · rw [if_neg h0, if_neg (nI_nle (by omega) (by omega))]
      by_cases hgu : D 0 4 ≤ nxs s % 100
      · rw [if_pos hgu, if_pos (nI_le hgu (by omega))]
      · have hml : nxs s % D 0 0 < D 0 0 := Nat.mod_lt _ (by omega)
        rw [if_neg hgu, if_neg (nI_ge (by omega) (by omega)), dvz_eq (nI_ne0 (by omega) (by omega)), nx_mod (by omega) (by omega) (by omega), nx_one _ (by omega), nx_xor]
  · rw [← hN1, gI_sI, if_neg q3]; exact w2 c k q1 q2
  · rw [← hN1, gR_sI]; exact w3 c k
/-- the class's dusk of one state r -/
theorem passDusk_ok {D : DT} {M : AM} {p r pic night s g : Nat} (hp : p = 8 ∨ p = 23) (hr : 40 ≤ r ∧ r ≤ 81) (ho : okP D) (hP : PL D M p) (hc : CCH D M p) (hpic : pic < 2 ^ D 0 0) (hn : night < 2 ^ 30) (hs2 : s < 1000) (h0 : gI M r 0 = nI pic) (h3 : gI M r 3 = nI night) (h4 : gI M r 4 = nI s) (hg : g ≤ 1) : ∃ M', f_State_passDusk r p (nI g) M = some ((), M') ∧ PL D M' p ∧ CCH D M' p ∧ gI M' r 0 = nI (if g = 0 then dsk D pic night else gst D (dsk D pic night) (nxs s)) ∧ gI M' r 3 = nI (night + 1) ∧ gI M' r 4 = nI (nxs s) ∧ (∀ c k, ¬ (p + 11 ≤ c ∧ c ≤ p + 14) → ¬ (c = r ∧ (k = 0 ∨ k = 3 ∨ k = 4)) → gI M' c k = gI M c k) ∧ ∀ c k, gR M' c k = gR M c k := by
  obtain ⟨N, w1, w2, w3, w4, w5⟩ := afterDusk_ok hp ho hP hc hpic (by omega : night < 2 ^ 31)
  have hnl := ho.1
  have hnx := nxs_lt s
  have hgu' := ho.2.2.2.2.1
  generalize hN1 : sI (sI N r 0 (nI (dsk D pic night))) r 4 (nI (nxs s)) = N1
  have i1 : ∀ c k, gI N1 c k = if c = r ∧ k = 4 then nI (nxs s) else if c = r ∧ k = 0 then nI (dsk D pic night) else gI N c k := fun c k => by rw [← hN1]; rfl
  generalize hv : (if g = 0 then dsk D pic night else gst D (dsk D pic night) (nxs s)) = v
  have hN2 : ∀ N2 : AM, (∀ c k, gI N2 c k = if c = r ∧ k = 0 then nI v else gI N1 c k) → (∀ c k, gR N2 c k = gR N1 c k) → ∃ M', f_State_passDusk_j80 r N2 = some ((), M') ∧ PL D M' p ∧ CCH D M' p ∧ gI M' r 0 = nI v ∧ gI M' r 3 = nI (night + 1) ∧ gI M' r 4 = nI (nxs s) ∧ (∀ c k, ¬ (p + 11 ≤ c ∧ c ≤ p + 14) → ¬ (c = r ∧ (k = 0 ∨ k = 3 ∨ k = 4)) → gI M' c k = gI M c k) ∧ ∀ c k, gR M' c k = gR M c k := fun N2 i2 r2 => by
    have e3 : gI N2 r 3 = nI night := by rw [i2, if_neg (by omega), i1, if_neg (by omega), if_neg (by omega), w4 _ _ (by omega)]; exact h3
    have fr : ∀ c k, ¬ (c = r ∧ (k = 0 ∨ k = 3 ∨ k = 4)) → gI (sI N2 r 3 (nI (night + 1))) c k = gI N c k := fun c k q => by
      rw [gI_sI, if_neg (by omega), i2, if_neg (by omega), i1, if_neg (by omega), if_neg (by omega)]
    refine ⟨sI N2 r 3 (nI (night + 1)), ?_, ?_, ?_, ?_, ?_, ?_, fun c k q1 q2 => ?_, fun c k => ?_⟩
    · unfold f_State_passDusk_j80
      rw [wI_eq, e3, nI_1]
    · exact w2.cq hp (fun c k q => fr c k (by unfold lPQ at q; omega))
    · exact w3.cg hp (fun c k q => fr c k (by unfold lPL at q; omega))
    · rw [gI_sI, if_neg (by omega), i2, if_pos ⟨rfl, rfl⟩]
    · rw [gI_sI, if_pos ⟨rfl, rfl⟩]
    · rw [gI_sI, if_neg (by omega), i2, if_neg (by omega), i1, if_pos ⟨rfl, rfl⟩]
    · rw [fr c k q2]; exact w4 c k q1
    · rw [gR_sI, r2, ← hN1]; exact w5 c k
  have e40 : gI N1 p 0 = nI (D 0 0) := by rw [i1, if_neg (by omega), if_neg (by omega), w4 _ _ (by omega)]; exact hP.1.1
  have e15 : gI N1 p 15 = nI (D 0 4) := by rw [i1, if_neg (by omega), if_neg (by omega), w4 _ _ (by omega)]; exact hP.1.2.2.2.2.1
  have e4 : gI N1 r 4 = nI (nxs s) := by rw [i1, if_pos ⟨rfl, rfl⟩]
  have e0 : gI N1 r 0 = nI (dsk D pic night) := by rw [i1, if_neg (by omega), if_pos ⟨rfl, rfl⟩]
  have start : ∀ R, (if nI g = 0 then f_State_passDusk_j80 r N1 else if (gI N1 p 0) ≤ 0 then f_State_passDusk_j80 r N1 else if (gI N1 p 15) ≤ ((gI N1 r 4) % 100) then f_State_passDusk_j80 r N1 else dvz (gI N1 p 0) (wI N1 r 0 ((gI N1 r 0) ^^^ ((1 : Int32) <<< (((gI N1 r 4) % (gI N1 p 0)) &&& 31))) (fun M5 => f_State_passDusk_j80 r M5))) = R → f_State_passDusk r p (nI g) M = R := fun R hR => by
    unfold f_State_passDusk
    rw [h0, h3, w1, bnd_s, wI_eq, wI_eq, show gI (sI N r 0 (nI (dsk D pic night))) r 4 = nI s by rw [gI_sI, if_neg (by omega), w4 _ _ (by omega)]; exact h4, nI_lit 137, pk_mul, nI_lit 71, nI_add, nI_lit 1000, nx_mod (by omega) (by decide) (by decide), show (s * 137 + 71) % 1000 = nxs s from rfl, hN1]
    exact hR
  have same : v = dsk D pic night → ∃ M', f_State_passDusk_j80 r N1 = some ((), M') ∧ PL D M' p ∧ CCH D M' p ∧ gI M' r 0 = nI v ∧ gI M' r 3 = nI (night + 1) ∧ gI M' r 4 = nI (nxs s) ∧ (∀ c k, ¬ (p + 11 ≤ c ∧ c ≤ p + 14) → ¬ (c = r ∧ (k = 0 ∨ k = 3 ∨ k = 4)) → gI M' c k = gI M c k) ∧ ∀ c k, gR M' c k = gR M c k := fun hvv => by
    refine hN2 N1 (fun c k => ?_) (fun c k => rfl)
    by_cases q : c = r ∧ k = 0
    · rw [if_pos q, q.1, q.2, e0, hvv]
    · rw [if_neg q]
  by_cases hg0 : g = 0
  · rw [if_pos hg0] at hv
    obtain ⟨M', x1, x2⟩ := same hv.symm
    exact ⟨M', start _ (by rw [hg0, if_pos (by decide)]; exact x1), x2⟩
  · rw [if_neg hg0] at hv
    have hg1 : g = 1 := by omega
    unfold gst at hv
    by_cases hl0 : D 0 0 = 0
    · rw [if_pos hl0] at hv
      obtain ⟨M', x1, x2⟩ := same hv.symm
      exact ⟨M', start _ (by rw [hg1, if_neg (by decide), e40, if_pos (by rw [hl0]; decide)]; exact x1), x2⟩
    · rw [if_neg hl0] at hv
      by_cases hgu : D 0 4 ≤ nxs s % 100
      · rw [if_pos hgu] at hv
        obtain ⟨M', x1, x2⟩ := same hv.symm
        refine ⟨M', start _ ?_, x2⟩
        rw [hg1, if_neg (by decide), e40, if_neg (nI_nle (by omega) (by omega)), e15, e4, nI_lit 100, nx_mod (by omega) (by decide) (by decide), if_pos (nI_le hgu (by omega))]; exact x1
      · rw [if_neg hgu] at hv
        have hml : nxs s % D 0 0 < D 0 0 := Nat.mod_lt _ (by omega)
        obtain ⟨M', x1, x2⟩ := hN2 (sI N1 r 0 (nI v)) (fun c k => rfl) (fun c k => rfl)
        refine ⟨M', start _ ?_, x2⟩
        rw [hg1, if_neg (by decide), e40, if_neg (nI_nle (by omega) (by omega)), e15, e4, nI_lit 100, nx_mod (by omega) (by decide) (by decide), if_neg (nI_ge (by omega) (by omega)), dvz_eq (nI_ne0 (by omega) (by omega)), nx_mod (by omega) (by omega) (by omega), nx_one _ (by omega), wI_eq, e0, nx_xor, hv]
        exact x1
