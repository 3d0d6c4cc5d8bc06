theorem Rel.night {D : DT} {M : AM} (h : Rel D M) : D (10 + D 7 0) 3 ≤ 999 := h.st.2.2.1
theorem afterDusk_rel {D : DT} {M : AM} (h : Rel D M) {pic night : Nat} (hp : pic < 2 ^ D 0 0) (hn : night < 2 ^ 31) : ∃ M', f_Plan_afterDusk (gR M 0 3) (nI pic) (nI night) M = some (nI (dsk D pic night), M') ∧ Rel D M' ∧ (∀ c k, ¬ ((19 ≤ c ∧ c ≤ 22) ∨ (34 ≤ c ∧ c ≤ 37)) → gI M' c k = gI M c k) ∧ ∀ c k, gR M' c k = gR M c k := by
  have hor := h.2.2.1.or
  obtain ⟨M', w1, w2, w3, w4, w5⟩ := afterDusk_ok hor h.1 h.2.2.2.1 h.2.2.2.2.1 hp hn
  exact ⟨M', w1, h.cache (fun c k q => w4 c k (by omega)) w5 w3, fun c k q => w4 c k (by omega), w5⟩
theorem duskOf_rel {D : DT} {M : AM} (h : Rel D M) {pic night : Nat} (hp : pic < 2 ^ D 0 0) : ∃ M', f_Mo_duskOf (nI pic) (nI night) M = some (nI (dsk D pic night), M') ∧ Rel D M' ∧ (∀ c k, c ≠ 113 → c ≠ 114 → gI M' c k = gI M c k) ∧ ∀ c k, gR M' c k = gR M c k := by
  obtain ⟨M', w1, w2, w3⟩ := duskOf_ok (night := night) h.1 h.2.2.2.2.2.1 hp
  exact ⟨M', w1, h.sm ⟨w3, fun c k q => w2 c k (fun z => q (by unfold scr; omega)) (fun z => q (by unfold scr; omega))⟩, w2, w3⟩
/-- which pictures stand still -/
def stl (D : DT) : Nat → Nat
  | 0 => 0
  | k + 1 => stl D k + (if dsk D k (D (10 + D 7 0) 3) = k then 1 else 0)
theorem stl_le (D : DT) : ∀ k, stl D k ≤ k := by
  intro k
  induction k with
  | zero => exact Nat.le_refl _
  | succ k ih => unfold stl; split <;> omega
theorem B_still : Both f_C_still f_Mo_still := by
  refine Both.ofR (fun D => nI (stl D (2 ^ D 0 0))) (fun D M h => ?_) (fun D M h => ?_)
  · have h256 := p2_le h.1.1
    have hn9 := h.night
    unfold f_C_still
    rw [cur_ok h, bnd_s, cst h (by decide)]
    have key : ∃ o, f_C_still_l15 (nI (D (10 + D 7 0) 3)) fu 0 0 M = some o ∧ (o.1 = nI (stl D (2 ^ D 0 0)) ∧ Rel D o.2) := by
      refine for_inv (fun z (s : Int32 × Int32 × AM) => f_C_still_l15 (nI (D (10 + D 7 0) 3)) z s.1 s.2.1 s.2.2) (fun k s => s.1 = nI (stl D k) ∧ s.2.1 = nI k ∧ Rel D s.2.2) (2 ^ D 0 0) _ (fun k s z hk hI => ?_) (fun s z hI => ?_) (2 ^ D 0 0) 0 (0, 0, M) fu (by omega) (by rw [fu_eq]; omega) ⟨rfl, rfl, h⟩
      · obtain ⟨v1, v2, N⟩ := s
        obtain ⟨rfl, rfl, i1⟩ := hI
        simp only at i1
        left
        obtain ⟨N', w1, w2, w3, w4⟩ := afterDusk_rel (night := D (10 + D 7 0) 3) i1 hk (by omega)
        have hd : dsk D k (D (10 + D 7 0) 3) < 2 ^ D 0 0 := dsk_lt hk
        refine ⟨(nI (stl D (k + 1)), nI (k + 1), N'), ⟨rfl, rfl, w2⟩, ?_⟩
        show f_C_still_b15 (f_C_still_l15 (nI (D (10 + D 7 0) 3)) z) (nI (D (10 + D 7 0) 3)) (nI (stl D k)) (nI k) N = f_C_still_l15 (nI (D (10 + D 7 0) 3)) z (nI (stl D k + (if dsk D k (D (10 + D 7 0) 3) = k then 1 else 0))) (nI (k + 1)) N'
        unfold f_C_still_b15
        rw [ckK_eq (pl_kd i1), allPictures_ok i1, bnd_s, if_neg (nI_ge hk (by omega)), ckK_eq (pl_kd i1), w1, bnd_s, nI_1, nI_1]
        by_cases he : dsk D k (D (10 + D 7 0) 3) = k
        · rw [if_pos (by rw [he]), if_pos he]
        · rw [if_neg (fun q => he ((nI_eq (by omega) (by omega)).mp q)), if_neg he]; rfl
      · obtain ⟨v1, v2, N⟩ := s
        obtain ⟨rfl, rfl, i1⟩ := hI
        refine ⟨(nI (stl D (2 ^ D 0 0)), N), ?_, rfl, i1⟩
        show f_C_still_b15 (f_C_still_l15 (nI (D (10 + D 7 0) 3)) z) (nI (D (10 + D 7 0) 3)) (nI (stl D (2 ^ D 0 0))) (nI (2 ^ D 0 0)) N = _
        simp only at i1
        unfold f_C_still_b15
        rw [ckK_eq (pl_kd i1), allPictures_ok i1, bnd_s, if_pos (nI_le (Nat.le_refl _) (by omega))]
    obtain ⟨⟨v, N⟩, k1, k2, k3⟩ := key
    simp only at k2
    exact ⟨N, by rw [k1, bnd_s, k2], k3⟩
  · have h256 := p2_le h.1.1
    have hnl := h.1.1
    unfold f_Mo_still
    have key : ∃ o, f_Mo_still_l4 fu 0 0 M = some o ∧ (o.1 = nI (stl D (2 ^ D 0 0)) ∧ Rel D o.2) := by
      refine for_inv (fun z (s : Int32 × Int32 × AM) => f_Mo_still_l4 z s.1 s.2.1 s.2.2) (fun k s => s.1 = nI (stl D k) ∧ s.2.1 = nI k ∧ Rel D s.2.2) (2 ^ D 0 0) _ (fun k s z hk hI => ?_) (fun s z hI => ?_) (2 ^ D 0 0) 0 (0, 0, M) fu (by omega) (by rw [fu_eq]; omega) ⟨rfl, rfl, h⟩
      · obtain ⟨v1, v2, N⟩ := s
        obtain ⟨rfl, rfl, i1⟩ := hI
        simp only at i1
        left
        obtain ⟨N', w1, w2, w3, w4⟩ := duskOf_rel (night := D (10 + D 7 0) 3) i1 hk
        have hd : dsk D k (D (10 + D 7 0) 3) < 2 ^ D 0 0 := dsk_lt hk
        refine ⟨(nI (stl D (k + 1)), nI (k + 1), N'), ⟨rfl, rfl, w2⟩, ?_⟩
        show f_Mo_still_b4 (f_Mo_still_l4 z) (nI (stl D k)) (nI k) N = f_Mo_still_l4 z (nI (stl D k + (if dsk D k (D (10 + D 7 0) 3) = k then 1 else 0))) (nI (k + 1)) N'
        unfold f_Mo_still_b4 f_Mo_still_j35
        rw [i1.2.2.2.2.2.1.1.1, nx_one _ (by omega), if_neg (nI_ge hk (by omega)), now_ald i1 3 3 rfl (by decide), w1, bnd_s, truth_1, truth_0, bnd_s, bnd_s, nI_1, nI_1]
        by_cases he : dsk D k (D (10 + D 7 0) 3) = k
        · rw [if_pos (by rw [he]), if_pos he]
        · rw [if_neg (fun q => he ((nI_eq (by omega) (by omega)).mp q)), if_neg he, nI_lit 0, nI_add]
      · obtain ⟨v1, v2, N⟩ := s
        obtain ⟨rfl, rfl, i1⟩ := hI
        refine ⟨(nI (stl D (2 ^ D 0 0)), N), ?_, rfl, i1⟩
        show f_Mo_still_b4 (f_Mo_still_l4 z) (nI (stl D (2 ^ D 0 0))) (nI (2 ^ D 0 0)) N = _
        simp only at i1
        unfold f_Mo_still_b4
        rw [i1.2.2.2.2.2.1.1.1, nx_one _ (by omega), if_pos (nI_le (Nat.le_refl _) (by omega))]
    obtain ⟨⟨v, N⟩, k1, k2, k3⟩ := key
    simp only at k2
    exact ⟨N, by rw [k1, bnd_s, k2], k3⟩
/-- which pictures lead here -/
def pst (D : DT) : Nat → Int32 × Int32
  | 0 => (0, -1)
  | k + 1 => if dsk D k (D (10 + D 7 0) 3) = D (10 + D 7 0) 0 then ((pst D k).1 + 1, if 0 ≤ (pst D k).2 then (pst D k).2 else nI k) else pst D k
theorem pst_s (D : DT) (k : Nat) : pst D (k + 1) = if dsk D k (D (10 + D 7 0) 3) = D (10 + D 7 0) 0 then ((pst D k).1 + 1, if 0 ≤ (pst D k).2 then (pst D k).2 else nI k) else pst D k := rfl
theorem C_pasts_ok {D : DT} {M : AM} (h : Rel D M) (a : Int32) : ∃ N, f_C_pasts_l16 a (gR M 39 (D 7 0)) fu 0 (-1) 0 M = some (pst D (2 ^ D 0 0), N) ∧ Rel D N := by
  have h256 := p2_le h.1.1
  have hn9 := h.night
  have hcell := h.cell
  have hpic := h.pic
  obtain ⟨r, hr⟩ : ∃ r, gR M 39 (D 7 0) = r := ⟨_, rfl⟩
  have key : ∃ o, f_C_pasts_l16 a r fu 0 (-1) 0 M = some o ∧ (o.1 = pst D (2 ^ D 0 0) ∧ Rel D o.2) := by
    refine for_inv (fun z (s : Int32 × Int32 × Int32 × AM) => f_C_pasts_l16 a r z s.1 s.2.1 s.2.2.1 s.2.2.2) (fun k s => s.1 = (pst D k).1 ∧ s.2.1 = (pst D k).2 ∧ s.2.2.1 = nI k ∧ Rel D s.2.2.2 ∧ gR s.2.2.2 39 (D 7 0) = r) (2 ^ D 0 0) _ (fun k s z hk hI => ?_) (fun s z hI => ?_) (2 ^ D 0 0) 0 (0, -1, 0, M) fu (by omega) (by rw [fu_eq]; omega) ⟨rfl, rfl, rfl, h, hr⟩
    · obtain ⟨v1, v2, v3, N⟩ := s
      obtain ⟨rfl, rfl, rfl, i1, i2⟩ := hI
      simp only at i1 i2
      left
      obtain ⟨N', w1, w2, w3, w4⟩ := afterDusk_rel (night := D (10 + D 7 0) 3) i1 hk (by omega)
      have hd : dsk D k (D (10 + D 7 0) 3) < 2 ^ D 0 0 := dsk_lt hk
      refine ⟨((pst D (k + 1)).1, (pst D (k + 1)).2, nI (k + 1), N'), ⟨rfl, rfl, rfl, w2, by rw [w4]; exact i2⟩, ?_⟩
      show f_C_pasts_b16 (f_C_pasts_l16 a r z) a r (pst D k).1 (pst D k).2 (nI k) N = f_C_pasts_l16 a r z (pst D (k + 1)).1 (pst D (k + 1)).2 (nI (k + 1)) N'
      have c3 : gI N r 3 = nI (D (10 + D 7 0) 3) := by rw [← i2]; exact cst i1 (by decide)
      have c0 : gI N' r 0 = nI (D (10 + D 7 0) 0) := by rw [← i2, ← w4]; exact cst w2 (by decide)
      unfold f_C_pasts_b16
      rw [ckK_eq (pl_kd i1), allPictures_ok i1, bnd_s, if_neg (nI_ge hk (by omega)), ckK_eq (pl_kd i1), c3, w1, bnd_s, c0, nI_1]
      rw [pst_s]
      by_cases he : dsk D k (D (10 + D 7 0) 3) = D (10 + D 7 0) 0
      · rw [if_pos (by rw [he]), if_pos he]
        by_cases h0 : 0 ≤ (pst D k).2
        · rw [if_pos h0, if_pos h0]
        · rw [if_neg h0, if_neg h0]
      · rw [if_neg (fun q => he ((nI_eq (by omega) (by omega)).mp q)), if_neg he]
    · obtain ⟨v1, v2, v3, N⟩ := s
      obtain ⟨rfl, rfl, rfl, i1, i2⟩ := hI
      simp only at i1
      refine ⟨(((pst D (2 ^ D 0 0)).1, (pst D (2 ^ D 0 0)).2), N), ?_, rfl, i1⟩
      show f_C_pasts_b16 (f_C_pasts_l16 a r z) a r (pst D (2 ^ D 0 0)).1 (pst D (2 ^ D 0 0)).2 (nI (2 ^ D 0 0)) N = _
      unfold f_C_pasts_b16
      rw [ckK_eq (pl_kd i1), allPictures_ok i1, bnd_s, if_pos (nI_le (Nat.le_refl _) (by omega))]
  obtain ⟨⟨v, N⟩, k1, k2, k3⟩ := key
  simp only at k2
  exact ⟨N, by rw [hr, k1, k2], k3⟩
theorem Mo_pasts_ok {D : DT} {M : AM} (h : Rel D M) (a : Int32) : ∃ N, f_Mo_pasts_l18 a fu 0 (-1) 0 M = some (pst D (2 ^ D 0 0), N) ∧ Rel D N := by
  have h256 := p2_le h.1.1
  have hnl := h.1.1
  have hpic := h.pic
  have key : ∃ o, f_Mo_pasts_l18 a fu 0 (-1) 0 M = some o ∧ (o.1 = pst D (2 ^ D 0 0) ∧ Rel D o.2) := by
    refine for_inv (fun z (s : Int32 × Int32 × Int32 × AM) => f_Mo_pasts_l18 a z s.1 s.2.1 s.2.2.1 s.2.2.2) (fun k s => s.1 = (pst D k).1 ∧ s.2.1 = (pst D k).2 ∧ s.2.2.1 = nI k ∧ Rel D s.2.2.2) (2 ^ D 0 0) _ (fun k s z hk hI => ?_) (fun s z hI => ?_) (2 ^ D 0 0) 0 (0, -1, 0, M) fu (by omega) (by rw [fu_eq]; omega) ⟨rfl, rfl, rfl, h⟩
    · obtain ⟨v1, v2, v3, N⟩ := s
      obtain ⟨rfl, rfl, rfl, i1⟩ := hI
      simp only at i1
      left
      obtain ⟨N', w1, w2, w3, w4⟩ := duskOf_rel (night := D (10 + D 7 0) 3) i1 hk
      have hd : dsk D k (D (10 + D 7 0) 3) < 2 ^ D 0 0 := dsk_lt hk
      refine ⟨((pst D (k + 1)).1, (pst D (k + 1)).2, nI (k + 1), N'), ⟨rfl, rfl, rfl, w2⟩, ?_⟩
      show f_Mo_pasts_b18 (f_Mo_pasts_l18 a z) a (pst D k).1 (pst D k).2 (nI k) N = f_Mo_pasts_l18 a z (pst D (k + 1)).1 (pst D (k + 1)).2 (nI (k + 1)) N'
      unfold f_Mo_pasts_b18
      rw [i1.2.2.2.2.2.1.1.1, nx_one _ (by omega), if_neg (nI_ge hk (by omega)), now_ald i1 3 3 rfl (by decide), w1, bnd_s, now_ald w2 0 0 rfl (by decide), nI_1]
      rw [pst_s]
      by_cases he : dsk D k (D (10 + D 7 0) 3) = D (10 + D 7 0) 0
      · rw [if_pos (by rw [he]), if_pos he]
        by_cases h0 : 0 ≤ (pst D k).2
        · rw [if_pos h0, if_pos h0]
        · rw [if_neg h0, if_neg h0]
      · rw [if_neg (fun q => he ((nI_eq (by omega) (by omega)).mp q)), if_neg he]
    · obtain ⟨v1, v2, v3, N⟩ := s
      obtain ⟨rfl, rfl, rfl, i1⟩ := hI
      simp only at i1
      refine ⟨(((pst D (2 ^ D 0 0)).1, (pst D (2 ^ D 0 0)).2), N), ?_, rfl, i1⟩
      show f_Mo_pasts_b18 (f_Mo_pasts_l18 a z) a (pst D (2 ^ D 0 0)).1 (pst D (2 ^ D 0 0)).2 (nI (2 ^ D 0 0)) N = _
      unfold f_Mo_pasts_b18
      rw [i1.2.2.2.2.2.1.1.1, nx_one _ (by omega), if_pos (nI_le (Nat.le_refl _) (by omega))]
  obtain ⟨⟨v, N⟩, k1, k2, k3⟩ := key
  simp only at k2
  exact ⟨N, by rw [k1, k2], k3⟩
theorem B_pasts (a : Int32) : Both (f_C_pasts a) (f_Mo_pasts a) := by
  refine Both.ofR (fun D => if a = 0 then (pst D (2 ^ D 0 0)).1 else if a = 1 then (pst D (2 ^ D 0 0)).2 else -1) (fun D M h => ?_) (fun D M h => ?_)
  · obtain ⟨N, k1, k2⟩ := C_pasts_ok h a
    refine ⟨N, ?_, k2⟩
    unfold f_C_pasts
    rw [cur_ok h, bnd_s, k1, bnd_s, either_eq, bnd_s]
  · unfold f_Mo_pasts
    rw [isIn01, bnd_s]
    by_cases h01 : a = 0 ∨ a = 1
    · obtain ⟨N, k1, k2⟩ := Mo_pasts_ok h a
      refine ⟨N, ?_, k2⟩
      rw [if_pos h01, if_neg (by decide), k1, bnd_s]
      by_cases h0 : a = 0
      · rw [if_pos h0, if_pos h0]
      · rw [if_neg h0, if_neg h0, if_pos (h01.resolve_left h0)]
    · refine ⟨M, ?_, h⟩
      rw [if_neg h01, if_pos rfl, if_neg (fun q => h01 (Or.inl q)), if_neg (fun q => h01 (Or.inr q))]
