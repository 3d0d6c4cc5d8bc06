/-! sets of cords -/
theorem and_sub (s F : Nat) : s &&& F = s ↔ ∀ j, s.testBit j = true → F.testBit j = true := by
  constructor
  · intro h j hj
    rw [← h, Nat.testBit_and] at hj
    simp at hj
    exact hj.2
  · intro h
    refine Nat.eq_of_testBit_eq fun j => ?_
    rw [Nat.testBit_and]
    cases hs : s.testBit j with
    | false => rfl
    | true => rw [h j hs]; rfl
theorem and_nil (s t : Nat) : s &&& t = 0 ↔ ∀ j, s.testBit j = true → t.testBit j = false := by
  constructor
  · intro h j hj
    have := congrArg (fun x => x.testBit j) h
    simp only [Nat.testBit_and, hj, Bool.true_and, Nat.zero_testBit] at this
    exact this
  · intro h
    refine Nat.eq_of_testBit_eq fun j => ?_
    rw [Nat.testBit_and, Nat.zero_testBit]
    cases hs : s.testBit j with
    | false => rfl
    | true => rw [h j hs]; rfl
theorem tb_big {s n j : Nat} (h : s < 2 ^ n) (hj : n ≤ j) : s.testBit j = false := Nat.testBit_lt_two_pow (Nat.lt_of_lt_of_le h (Nat.pow_le_pow_right (by decide) hj))
theorem fr_tball {D : DT} {M : AM} (h : Rel D M) (j : Nat) : (frN (D 0 1) (D (10 + D 7 0) 1)).testBit j = (decide (j < D 0 1) && !(D (10 + D 7 0) 1).testBit j) := by
  have hnc := h.1.2.1
  by_cases hj : j < 8
  · exact fr_tb _ (by omega) _ h.tied' h.tied j hj
  · rw [tb_big h.fr (by omega)]
    simp; omega
theorem sub_fr {D : DT} {M : AM} (h : Rel D M) (s : Nat) : s &&& frN (D 0 1) (D (10 + D 7 0) 1) = s ↔ (s < 2 ^ D 0 1 ∧ s &&& D (10 + D 7 0) 1 = 0) := by
  rw [and_sub, and_nil]
  constructor
  · intro q
    refine ⟨Nat.lt_pow_two_of_testBit s (fun j hj => ?_), fun j hj => ?_⟩
    · cases hs : s.testBit j with
      | false => rfl
      | true =>
        have := q j hs
        rw [fr_tball h] at this
        simp at this
        omega
    · have := q j hj
      rw [fr_tball h] at this
      simp at this
      exact this.2
  · rintro ⟨q1, q2⟩ j hj
    rw [fr_tball h, q2 j hj]
    by_cases hjn : j < D 0 1
    · simp [hjn]
    · rw [tb_big q1 (by omega)] at hj; cases hj
theorem sub_le {s F : Nat} (h : s &&& F = s) : s ≤ F := by
  rw [← h]; exact Nat.and_le_right
theorem within_bits {s F : Nat} (hs : s < 256) (hF : F < 256) : nI s &&& (nI F ^^^ (-1)) = 0 ↔ s &&& F = s := by
  rw [show (-1 : Int32) = nI 4294967295 from by decide, nx_xor, nx_and]
  have hle : s &&& (F ^^^ 4294967295) ≤ s := Nat.and_le_left
  constructor
  · intro q
    have q0 : s &&& (F ^^^ 4294967295) = 0 := (nI_eq (by omega) (by decide)).mp (q.trans nI_0.symm)
    rw [and_sub]
    rw [and_nil] at q0
    intro j hj
    have q1 := q0 j hj
    by_cases hj8 : j < 32
    · rw [Nat.testBit_xor, show (4294967295 : Nat) = 2 ^ 32 - 1 from rfl, Nat.testBit_two_pow_sub_one] at q1
      simp [hj8] at q1
      exact q1
    · rw [tb_big (n := 8) hs (by omega)] at hj; cases hj
  · intro q
    rw [and_sub] at q
    have q0 : s &&& (F ^^^ 4294967295) = 0 := by
      rw [and_nil]
      intro j hj
      by_cases hj8 : j < 32
      · rw [Nat.testBit_xor, show (4294967295 : Nat) = 2 ^ 32 - 1 from rfl, Nat.testBit_two_pow_sub_one, q j hj]
        simp [hj8]
      · rw [tb_big (n := 8) hs (by omega)] at hj; cases hj
    rw [q0]; rfl
theorem isWithin_ok {s F : Nat} (hs : s < 256) (hF : F < 256) (M : AM) : f_Mo_isWithin (nI s) (nI F) M = some (if s &&& F = s then 1 else 0, M) := by
  unfold f_Mo_isWithin
  by_cases q : s &&& F = s
  · rw [if_pos ((within_bits hs hF).mpr q), if_pos q]
  · rw [if_neg (fun z => q ((within_bits hs hF).mp z)), if_neg q]
theorem and_zero_I {s t : Nat} (hs : s < 2 ^ 31) : nI s &&& nI t = 0 ↔ s &&& t = 0 := by
  have hle : s &&& t ≤ s := Nat.and_le_left
  rw [nx_and]
  constructor
  · intro q; exact (nI_eq (by omega) (by decide)).mp (q.trans nI_0.symm)
  · intro q; rw [q]; rfl
theorem xt_s (tn : Nat → Nat) (n s : Nat) : xt tn (n + 1) s = xt tn n s ^^^ (if s.testBit n then tn n else 0) := rfl
theorem xt_lt {D : DT} (ho : okP D) (s : Nat) : ∀ k, k ≤ D 0 1 → xt (D 3) k s < 2 ^ D 0 0 := by
  intro k
  induction k with
  | zero => intro _; exact p2_pos _
  | succ k ih =>
    intro hk
    rw [xt_s]
    refine Nat.xor_lt_two_pow (ih (by omega)) ?_
    split
    · exact (ho.2.2.2.2.2.2.2.1 k (by omega)).1
    · exact p2_pos _
theorem turnedBy_ok {D : DT} {M : AM} (h : Rel D M) {s : Nat} (hs : s < 2 ^ 31) : f_Mo_turnedBy (nI s) M = some (nI (xt (D 3) (D 0 1) s), M) := by
  unfold f_Mo_turnedBy
  have hnc := h.1.2.1
  have key : f_Mo_turnedBy_l4 (nI s) fu 0 0 M = some (nI (xt (D 3) (D 0 1) s), M) := for_up (fun z (q : Int32 × Int32 × AM) => f_Mo_turnedBy_l4 (nI s) z q.1 q.2.1 q.2.2) (fun k => (nI (xt (D 3) k s), nI k, M)) (D 0 1) _
    (fun k z hk => by
      show f_Mo_turnedBy_b4 (f_Mo_turnedBy_l4 (nI s) z) (nI s) (nI (xt (D 3) k s)) (nI k) M = f_Mo_turnedBy_l4 (nI s) z (nI (xt (D 3) (k + 1) s)) (nI (k + 1)) M
      unfold f_Mo_turnedBy_b4
      rw [h.2.2.2.2.2.1.1.2.2.1, if_neg (nI_ge hk (by omega)), has_ok hs (by omega), bnd_s, ald_nI (by omega) (by decide), (h.2.2.2.2.2.1.2.2.1 k hk).1, nx_xor, nI_lit 0, nx_xor, nI_1, xt_s]
      by_cases hb : s.testBit k = true
      · rw [if_pos hb, if_neg (by decide), if_pos hb]
      · rw [if_neg hb, if_pos rfl, if_neg hb])
    (fun z => by
      show f_Mo_turnedBy_b4 (f_Mo_turnedBy_l4 (nI s) z) (nI s) (nI (xt (D 3) (D 0 1) s)) (nI (D 0 1)) M = _
      unfold f_Mo_turnedBy_b4
      rw [h.2.2.2.2.2.1.1.2.2.1, if_pos (nI_le (Nat.le_refl _) (by omega))]) (D 0 1) 0 fu (by omega) (by rw [fu_eq]; omega)
  rw [bnd_eq key]
/-- the price of a set -/
def prc (c : Nat → Nat) : Nat → Nat → Nat
  | 0, _ => 0
  | n + 1, s => prc c n s + (s / 2 ^ n % 2) * c n
theorem prc_s (c : Nat → Nat) (n s : Nat) : prc c (n + 1) s = prc c n s + (s / 2 ^ n % 2) * c n := rfl
theorem prc_le {c : Nat → Nat} (s : Nat) : ∀ k, (∀ j, j < k → c j ≤ 20) → prc c k s ≤ 20 * k := by
  intro k
  induction k with
  | zero => intro _; exact Nat.le_refl _
  | succ k ih =>
    intro hk
    have h1 := ih (fun j hj => hk j (by omega))
    have h2 := hk k (by omega)
    have h3 : s / 2 ^ k % 2 ≤ 1 := by omega
    have h4 : s / 2 ^ k % 2 * c k ≤ 1 * c k := Nat.mul_le_mul_right _ h3
    rw [prc_s]; omega
theorem priceOf_ok {D : DT} {M : AM} (h : Rel D M) {s : Nat} (hs : s < 2 ^ 31) : f_Plan_priceOf (gR M 0 3) (nI s) M = some (nI (prc (D 4) (D 0 1) s), M) := by
  unfold f_Plan_priceOf
  have hnc := h.1.2.1
  obtain ⟨p, hp⟩ : ∃ p, gR M 0 3 = p := ⟨_, rfl⟩
  have hP := h.2.2.2.1
  rw [hp] at hP ⊢
  have key : f_Plan_priceOf_l4 p (nI s) fu 0 0 M = some (nI (prc (D 4) (D 0 1) s), M) := for_up (fun z (q : Int32 × Int32 × AM) => f_Plan_priceOf_l4 p (nI s) z q.1 q.2.1 q.2.2) (fun k => (nI (prc (D 4) k s), nI k, M)) (D 0 1) _
    (fun k z hk => by
      show f_Plan_priceOf_b4 (f_Plan_priceOf_l4 p (nI s) z) p (nI s) (nI (prc (D 4) k s)) (nI k) M = f_Plan_priceOf_l4 p (nI s) z (nI (prc (D 4) (k + 1) s)) (nI (k + 1)) M
      unfold f_Plan_priceOf_b4
      rw [hP.1.2.2.1, if_neg (nI_ge hk (by omega)), ald_nI (by omega) (by decide), (hP.2.2.1 k hk).2, nx_bit hs (by omega), pk_mul, nI_add, nI_1, prc_s])
    (fun z => by
      show f_Plan_priceOf_b4 (f_Plan_priceOf_l4 p (nI s) z) p (nI s) (nI (prc (D 4) (D 0 1) s)) (nI (D 0 1)) M = _
      unfold f_Plan_priceOf_b4
      rw [hP.1.2.2.1, if_pos (nI_le (Nat.le_refl _) (by omega))]) (D 0 1) 0 fu (by omega) (by rw [fu_eq]; omega)
  rw [bnd_eq key]
theorem costOf_ok {D : DT} {M : AM} (h : Rel D M) {s : Nat} (hs : s < 2 ^ 31) : f_Mo_costOf (nI s) M = some (nI (prc (D 4) (D 0 1) s), M) := by
  unfold f_Mo_costOf
  have hnc := h.1.2.1
  have key : f_Mo_costOf_l4 (nI s) fu 0 0 M = some (nI (prc (D 4) (D 0 1) s), M) := for_up (fun z (q : Int32 × Int32 × AM) => f_Mo_costOf_l4 (nI s) z q.1 q.2.1 q.2.2) (fun k => (nI (prc (D 4) k s), nI k, M)) (D 0 1) _
    (fun k z hk => by
      show f_Mo_costOf_b4 (f_Mo_costOf_l4 (nI s) z) (nI s) (nI (prc (D 4) k s)) (nI k) M = f_Mo_costOf_l4 (nI s) z (nI (prc (D 4) (k + 1) s)) (nI (k + 1)) M
      unfold f_Mo_costOf_b4
      rw [h.2.2.2.2.2.1.1.2.2.1, if_neg (nI_ge hk (by omega)), has_ok hs (by omega), bnd_s, ald_nI (by omega) (by decide), (h.2.2.2.2.2.1.2.2.1 k hk).2, nI_add, nI_lit 0, nI_add, nI_1, prc_s, tb_mod]
      by_cases hb : s.testBit k = true
      · rw [if_pos hb, if_neg (by decide), if_pos hb, Nat.one_mul]
      · rw [if_neg hb, if_pos rfl, if_neg hb, Nat.zero_mul])
    (fun z => by
      show f_Mo_costOf_b4 (f_Mo_costOf_l4 (nI s) z) (nI s) (nI (prc (D 4) (D 0 1) s)) (nI (D 0 1)) M = _
      unfold f_Mo_costOf_b4
      rw [h.2.2.2.2.2.1.1.2.2.1, if_pos (nI_le (Nat.le_refl _) (by omega))]) (D 0 1) 0 fu (by omega) (by rw [fu_eq]; omega)
  rw [bnd_eq key]
