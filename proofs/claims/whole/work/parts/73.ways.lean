/-- how many of the first n are so -/
def cnt (P : Nat → Bool) : Nat → Nat
  | 0 => 0
  | k + 1 => cnt P k + (if P k = true then 1 else 0)
theorem cnt_s (P : Nat → Bool) (k : Nat) : cnt P (k + 1) = cnt P k + (if P k = true then 1 else 0) := rfl
theorem cnt_le (P : Nat → Bool) : ∀ k, cnt P k ≤ k := by
  intro k
  induction k with
  | zero => exact Nat.le_refl _
  | succ k ih => rw [cnt_s]; split <;> omega
theorem cnt_ext {P Q : Nat → Bool} : ∀ n, (∀ k, k < n → P k = Q k) → cnt P n = cnt Q n := by
  intro n
  induction n with
  | zero => intro _; rfl
  | succ n ih => intro h; rw [cnt_s, cnt_s, ih (fun k hk => h k (by omega)), h n (by omega)]
theorem cnt_more {P : Nat → Bool} {m : Nat} : ∀ d, (∀ k, m ≤ k → k < m + d → P k = false) → cnt P (m + d) = cnt P m := by
  intro d
  induction d with
  | zero => intro _; rfl
  | succ d ih =>
    intro h
    rw [← Nat.add_assoc, cnt_s, ih (fun k h1 h2 => h k h1 (by omega)), h (m + d) (by omega) (by omega)]
    rfl
/-- the class's plan and state as a call reads them -/
def VW (D : DT) (N : AM) (p r : Nat) : Prop := f_Plan_allCords p N = some (nI (2 ^ D 0 1 - 1), N) ∧ gI N r 0 = nI (D (10 + D 7 0) 0) ∧ gI N r 1 = nI (D (10 + D 7 0) 1) ∧ (∀ s, s < 2 ^ D 0 1 → gI N (p + 8) s = nI (xt (D 3) (D 0 1) s)) ∧ gI N p 6 = nI (D 0 1) ∧ (∀ c, c < D 0 1 → gI N (p + 6) c = nI (D 3 c) ∧ gI N (p + 7) c = nI (D 4 c)) ∧ f_Plan_allPictures p N = some (nI (2 ^ D 0 0), N)
theorem Rel.view {D : DT} {M N : AM} (h : Rel D M) (hN : Sm M N) : VW D N (gR M 0 3) (gR M 39 (D 7 0)) ∧ Rel D N := by
  have hR := h.sm hN
  have e3 := hN.1 0 3
  have e9 := hN.1 39 (D 7 0)
  rw [← e3, ← e9]
  exact ⟨⟨allCords_ok hR, cst hR (by decide), cst hR (by decide), hR.2.2.2.1.2.2.2.1, hR.2.2.2.1.1.2.2.1, hR.2.2.2.1.2.2.1, allPictures_ok hR⟩, hR⟩
theorem nI_sub1 {a : Nat} (h : 0 < a) : nI a - 1 = nI (a - 1) := by rw [nI_lit 1, pk_sub (by omega)]
/-- all sets are through, or not yet -/
theorem sets_stop {n : Nat} (h : n < 2 ^ 30) (h0 : 0 < n) : nI (n - 1) < nI n := nI_lt (by omega) (by omega)
theorem sets_go {n k : Nat} (h : n < 2 ^ 30) (hk : k < n) : ¬ nI (n - 1) < nI k := nI_nlt (by omega) (by omega)
def wyP (D : DT) (a : Int32) (s : Nat) : Bool := decide (s &&& D (10 + D 7 0) 1 = 0) && decide (nI (D (10 + D 7 0) 0 ^^^ xt (D 3) (D 0 1) s) = a)
theorem countFor_ok {D : DT} {M : AM} (h : Rel D M) (a : Int32) : f_Sets_countFor (gR M 0 3) (gR M 39 (D 7 0)) a M = some (nI (cnt (wyP D a) (2 ^ D 0 1)), M) := by
  unfold f_Sets_countFor
  obtain ⟨⟨v1, v2, v3, v4, v5, v6, v7⟩, -⟩ := h.view Sm.rfl'
  have h256 := p2_le h.1.2.1
  have h0 := p2_pos (D 0 1)
  generalize gR M 0 3 = p at *
  generalize gR M 39 (D 7 0) = r at *
  have key : f_Sets_countFor_l6 p r a fu 0 0 M = some (nI (cnt (wyP D a) (2 ^ D 0 1)), M) := for_up (fun z (q : Int32 × Int32 × AM) => f_Sets_countFor_l6 p r a z q.1 q.2.1 q.2.2) (fun k => (nI (cnt (wyP D a) k), nI k, M)) (2 ^ D 0 1) _
    (fun k z hk => by
      show f_Sets_countFor_b6 (f_Sets_countFor_l6 p r a z) p r a (nI (cnt (wyP D a) k)) (nI k) M = f_Sets_countFor_l6 p r a z (nI (cnt (wyP D a) (k + 1))) (nI (k + 1)) M
      unfold f_Sets_countFor_b6
      rw [v1, bnd_s, if_neg (sets_go (by omega) hk), v3, ald_nI (by omega) (by decide), v4 k hk, v2, nx_xor, nI_1, nI_1, cnt_s]
      unfold wyP
      by_cases hb : k &&& D (10 + D 7 0) 1 = 0
      · rw [if_pos ((and_zero_I (by omega)).mpr hb)]
        by_cases ha : nI (D (10 + D 7 0) 0 ^^^ xt (D 3) (D 0 1) k) = a
        · rw [if_pos ha]; simp [hb, ha]
        · rw [if_neg ha]; simp [hb, ha]
      · rw [if_neg (fun q => hb ((and_zero_I (by omega)).mp q))]; simp [hb])
    (fun z => by
      show f_Sets_countFor_b6 (f_Sets_countFor_l6 p r a z) p r a (nI (cnt (wyP D a) (2 ^ D 0 1))) (nI (2 ^ D 0 1)) M = _
      unfold f_Sets_countFor_b6
      rw [v1, bnd_s, if_pos (sets_stop (by omega) h0)]) (2 ^ D 0 1) 0 fu (by omega) (by rw [fu_eq]; omega)
  rw [bnd_eq key]
theorem wyP_fr {D : DT} {M : AM} (h : Rel D M) (a : Int32) : cnt (wyP D a) (2 ^ D 0 1) = cnt (fun s => decide (s &&& frN (D 0 1) (D (10 + D 7 0) 1) = s) && decide (nI (D (10 + D 7 0) 0 ^^^ xt (D 3) (D 0 1) s) = a)) (frN (D 0 1) (D (10 + D 7 0) 1) + 1) := by
  have hfr := h.fr
  generalize hP : (fun s => decide (s &&& frN (D 0 1) (D (10 + D 7 0) 1) = s) && decide (nI (D (10 + D 7 0) 0 ^^^ xt (D 3) (D 0 1) s) = a)) = P
  have e1 : cnt (wyP D a) (2 ^ D 0 1) = cnt P (2 ^ D 0 1) := cnt_ext _ (fun s hs => by
    rw [← hP]
    unfold wyP
    have := sub_fr h s
    by_cases q : s &&& D (10 + D 7 0) 1 = 0
    · simp [q, this.mpr ⟨hs, q⟩]
    · have q2 : ¬ s &&& frN (D 0 1) (D (10 + D 7 0) 1) = s := fun z => q (this.mp z).2
      simp [q, q2])
  rw [e1]
  have e2 := cnt_more (P := P) (m := frN (D 0 1) (D (10 + D 7 0) 1) + 1) (2 ^ D 0 1 - (frN (D 0 1) (D (10 + D 7 0) 1) + 1)) (fun k h1 h2 => by
    rw [← hP]
    have q2 : ¬ k &&& frN (D 0 1) (D (10 + D 7 0) 1) = k := fun z => by have := sub_le z; omega
    simp [q2])
  rw [← e2]
  congr 1
  omega
theorem waysTo_ok {D : DT} {M : AM} (h : Rel D M) (a : Int32) : f_Mo_waysTo a M = some (nI (cnt (wyP D a) (2 ^ D 0 1)), M) := by
  unfold f_Mo_waysTo
  rw [wyP_fr h a]
  have hfr := h.fr'
  have hfr2 := Mo_free_ok h
  generalize hF : frN (D 0 1) (D (10 + D 7 0) 1) = F at *
  generalize hP : (fun s => decide (s &&& F = s) && decide (nI (D (10 + D 7 0) 0 ^^^ xt (D 3) (D 0 1) s) = a)) = P
  have key : f_Mo_waysTo_l4 a fu 0 0 M = some (nI (cnt P (F + 1)), M) := for_up (fun z (q : Int32 × Int32 × AM) => f_Mo_waysTo_l4 a z q.1 q.2.1 q.2.2) (fun k => (nI (cnt P k), nI k, M)) (F + 1) _
    (fun k z hk => by
      show f_Mo_waysTo_b4 (f_Mo_waysTo_l4 a z) a (nI (cnt P k)) (nI k) M = f_Mo_waysTo_l4 a z (nI (cnt P (k + 1))) (nI (k + 1)) M
      unfold f_Mo_waysTo_b4 f_Mo_waysTo_j44 f_Mo_waysTo_j45
      rw [hfr2, bnd_s, if_neg (nI_nlt (by omega) (by omega)), hfr2, bnd_s, isWithin_ok (by omega) hfr, bnd_s, now_ald h 0 0 rfl (by decide), turnedBy_ok h (by omega), bnd_s, nx_xor, truth_1, truth_0, bnd_s, bnd_s, nI_1, nI_1, nI_lit 0, nI_add, cnt_s, ← hP]
      by_cases hb : k &&& F = k
      · rw [if_pos hb, if_neg (by decide)]
        by_cases ha : nI (D (10 + D 7 0) 0 ^^^ xt (D 3) (D 0 1) k) = a
        · rw [if_pos ha]; simp [hb, ha]
        · rw [if_neg ha]; simp [hb, ha]
      · rw [if_neg hb, if_pos (by decide)]; simp [hb])
    (fun z => by
      show f_Mo_waysTo_b4 (f_Mo_waysTo_l4 a z) a (nI (cnt P (F + 1))) (nI (F + 1)) M = _
      unfold f_Mo_waysTo_b4
      rw [hfr2, bnd_s, if_pos (nI_lt (by omega) (by omega))]) (F + 1) 0 fu (by omega) (by rw [fu_eq]; omega)
  rw [bnd_eq key]
theorem B_ways (a : Int32) : Both (f_C_ways a) (f_Mo_ways a) := by
  refine Both.pure fun D M h => ?_
  have h256 := p2_le h.1.1
  unfold f_C_ways f_Mo_ways
  rw [ckK_eq (pl_kd h)]
  rcases in_cases a (2 ^ D 0 0) (by omega) with ⟨j, hj, rfl⟩ | ho
  · refine ⟨nI (cnt (wyP D (nI j)) (2 ^ D 0 1)), ?_, ?_⟩
    · rw [hasPicture_in h hj, bnd_s, if_neg (by decide), ckK_eq (pl_kd h), cur_ok h, bnd_s, countFor_ok h, bnd_s]
    · rw [isPicture_in h hj, bnd_s, if_neg (by decide), waysTo_ok h, bnd_s]
  · rw [hasPicture_out h ho, isPicture_out h ho]
    exact ⟨-1, rfl, rfl⟩
theorem B_can (a : Int32) : Both (f_C_can a) (f_Mo_can a) := by
  refine Both.pure fun D M h => ?_
  have h256 := p2_le h.1.1
  unfold f_C_can f_Mo_can f_Mo_can_j21
  rw [ckK_eq (pl_kd h)]
  rcases in_cases a (2 ^ D 0 0) (by omega) with ⟨j, hj, rfl⟩ | ho
  · refine ⟨if nI (cnt (wyP D (nI j)) (2 ^ D 0 1)) ≤ 0 then 0 else 1, ?_, ?_⟩
    · rw [hasPicture_in h hj, bnd_s, if_neg (by decide), ckK_eq (pl_kd h), cur_ok h, bnd_s, countFor_ok h, bnd_s]
      split <;> rfl
    · rw [isPicture_in h hj, bnd_s, if_neg (by decide), waysTo_ok h, bnd_s, truth_1, truth_0, bnd_s, bnd_s]
      split <;> rfl
  · rw [hasPicture_out h ho, isPicture_out h ho]
    exact ⟨-1, rfl, rfl⟩
