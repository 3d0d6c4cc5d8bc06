/-- Euclid, at most c steps; what is left -/
def eu : Nat → Nat → Nat → Nat × Nat
  | 0, a, b => (a, b)
  | c + 1, a, b => if b = 0 then (a, b) else eu c b (a % b)
theorem eu_s (c a b : Nat) : eu (c + 1) a b = if b = 0 then (a, b) else eu c b (a % b) := rfl
theorem eu_ok : ∀ g, g < 101 → ∀ n, n < 5 → (eu 60 ((100 - g) ^ n) (100 ^ n)).2 = 0 ∧ (eu 59 (100 ^ n) ((100 - g) ^ n)).2 = 0 ∧ (eu 60 ((100 - g) ^ n) (100 ^ n)).1 = (eu 59 (100 ^ n) ((100 - g) ^ n)).1 ∧ 0 < (eu 60 ((100 - g) ^ n) (100 ^ n)).1 ∧ (eu 60 ((100 - g) ^ n) (100 ^ n)).1 ≤ 100000000 ∧ (100 - g) ^ n ≤ 100000000 ∧ 100 ^ n ≤ 100000000 := by decide +kernel
theorem Mo_div_ok (M : AM) : ∀ c a b z, a ≤ 100000000 → b ≤ 100000000 → (eu c a b).2 = 0 → c < z → f_Mo_divisor_l4 z (nI a) (nI b) M = some (nI (eu c a b).1, M) := by
  intro c
  induction c with
  | zero =>
    intro a b z ha hb h0 hz
    obtain ⟨z, rfl⟩ : ∃ y, z = y + 1 := ⟨z - 1, by omega⟩
    have hb0 : b = 0 := h0
    show f_Mo_divisor_b4 (f_Mo_divisor_l4 z) (nI a) (nI b) M = _
    unfold f_Mo_divisor_b4
    rw [hb0, if_pos (by decide)]
    rfl
  | succ c ih =>
    intro a b z ha hb h0 hz
    obtain ⟨z, rfl⟩ : ∃ y, z = y + 1 := ⟨z - 1, by omega⟩
    show f_Mo_divisor_b4 (f_Mo_divisor_l4 z) (nI a) (nI b) M = _
    unfold f_Mo_divisor_b4
    rw [eu_s] at h0 ⊢
    by_cases hb0 : b = 0
    · rw [if_pos hb0, hb0, if_pos (by decide)]
    · have hm : a % b < b := Nat.mod_lt _ (by omega)
      rw [if_neg hb0] at h0
      rw [if_neg (nI_nle (by omega) (by omega)), dvz_eq (nI_ne0 (by omega) (by omega)), nx_mod (by omega) (by omega) (by omega), if_neg hb0]
      exact ih b (a % b) z hb (by omega) h0 (by omega)
theorem C_div_ok (M : AM) : ∀ c a b z k, a ≤ 100000000 → b ≤ 100000000 → (eu c a b).2 = 0 → c + k < 100 → c < z → f_C_commonDivisor_l7 z (nI a) (nI b) (nI k) M = some (nI (eu c a b).1, M) := by
  intro c
  induction c with
  | zero =>
    intro a b z k ha hb h0 hk hz
    obtain ⟨z, rfl⟩ : ∃ y, z = y + 1 := ⟨z - 1, by omega⟩
    have hb0 : b = 0 := h0
    show f_C_commonDivisor_b7 (f_C_commonDivisor_l7 z) (nI a) (nI b) (nI k) M = _
    unfold f_C_commonDivisor_b7
    rw [if_neg (show ¬ (100 : Int32) ≤ nI k from nI_ge (b := 100) (by omega) (by decide)), hb0, if_pos (by decide)]
    rfl
  | succ c ih =>
    intro a b z k ha hb h0 hk hz
    obtain ⟨z, rfl⟩ : ∃ y, z = y + 1 := ⟨z - 1, by omega⟩
    show f_C_commonDivisor_b7 (f_C_commonDivisor_l7 z) (nI a) (nI b) (nI k) M = _
    unfold f_C_commonDivisor_b7
    rw [eu_s] at h0 ⊢
    rw [if_neg (show ¬ (100 : Int32) ≤ nI k from nI_ge (b := 100) (by omega) (by decide))]
    by_cases hb0 : b = 0
    · rw [if_pos hb0, hb0, if_pos (by decide)]
    · have hm : a % b < b := Nat.mod_lt _ (by omega)
      rw [if_neg hb0] at h0
      rw [if_neg (nI_ne0 (by omega) (by omega)), dvz_eq (nI_ne0 (by omega) (by omega)), nx_mod (by omega) (by omega) (by omega), if_neg hb0, nI_1]
      exact ih b (a % b) z (k + 1) hb (by omega) h0 (by omega) (by omega)
theorem Mo_power_ok (M : AM) (b n : Nat) (hn : n < 100) : f_Mo_power (nI b) (nI n) M = some (nI (b ^ n), M) := by
  unfold f_Mo_power
  have key : f_Mo_power_l4 (nI b) (nI n) fu 1 0 M = some (nI (b ^ n), M) := for_up (fun z (s : Int32 × Int32 × AM) => f_Mo_power_l4 (nI b) (nI n) z s.1 s.2.1 s.2.2) (fun k => (nI (b ^ k), nI k, M)) n _
    (fun k z hk => by
      show f_Mo_power_b4 (f_Mo_power_l4 (nI b) (nI n) z) (nI b) (nI n) (nI (b ^ k)) (nI k) M = f_Mo_power_l4 (nI b) (nI n) z (nI (b ^ (k + 1))) (nI (k + 1)) M
      unfold f_Mo_power_b4
      rw [if_neg (nI_ge hk (by omega)), pk_mul, nI_1, Nat.pow_succ])
    (fun z => by
      show f_Mo_power_b4 (f_Mo_power_l4 (nI b) (nI n) z) (nI b) (nI n) (nI (b ^ n)) (nI n) M = _
      unfold f_Mo_power_b4
      rw [if_pos (nI_le (Nat.le_refl _) (by omega))]) n 0 fu (by omega) (by rw [fu_eq]; omega)
  rw [bnd_eq key]
theorem C_oddsL {D : DT} {M : AM} (h : Rel D M) (a2 : Int32) (n : Nat) (hn : n < 5) : f_C_odds_l19 (nI n) a2 fu 1 1 0 M = some ((nI ((100 - D 0 4) ^ n), nI (100 ^ n)), M) :=
  for_up (fun z (s : Int32 × Int32 × Int32 × AM) => f_C_odds_l19 (nI n) a2 z s.1 s.2.1 s.2.2.1 s.2.2.2) (fun k => (nI ((100 - D 0 4) ^ k), nI (100 ^ k), nI k, M)) n _
    (fun k z hk => by
      show f_C_odds_b19 (f_C_odds_l19 (nI n) a2 z) (nI n) a2 (nI ((100 - D 0 4) ^ k)) (nI (100 ^ k)) (nI k) M = f_C_odds_l19 (nI n) a2 z (nI ((100 - D 0 4) ^ (k + 1))) (nI (100 ^ (k + 1))) (nI (k + 1)) M
      unfold f_C_odds_b19
      rw [if_neg (nI_ge hk (by omega)), ckK_eq (pl_kd h), h.2.2.2.1.1.2.2.2.2.1, nI_lit 100, pk_sub h.1.2.2.2.2.1, pk_mul, pk_mul, nI_1, Nat.pow_succ, Nat.pow_succ])
    (fun z => by
      show f_C_odds_b19 (f_C_odds_l19 (nI n) a2 z) (nI n) a2 (nI ((100 - D 0 4) ^ n)) (nI (100 ^ n)) (nI n) M = _
      unfold f_C_odds_b19
      rw [if_pos (nI_le (Nat.le_refl _) (by omega))]) n 0 fu (by omega) (by rw [fu_eq]; omega)
theorem B_odds (a b : Int32) : Both (f_C_odds a b) (f_Mo_odds a b) := by
  refine Both.pure fun D M h => ?_
  unfold f_C_odds f_Mo_odds
  have e4 : (4 : Int32) = nI 5 - 1 := by decide
  rcases in_cases a 5 (by decide) with ⟨n, hn, rfl⟩ | ho
  · obtain ⟨u1, u2, u3, u4, u5, u6, u7⟩ := eu_ok (D 0 4) (by have := h.1.2.2.2.2.1; omega) n hn
    generalize hP : (100 - D 0 4) ^ n = P at *
    generalize hQ : 100 ^ n = Q at *
    generalize hE : (eu 60 P Q).1 = E at *
    refine ⟨if b = 0 then nI P / nI E else if b = 1 then nI Q / nI E else -1, ?_, ?_⟩
    · rw [if_neg (nI_pos (by omega)), if_pos (show nI n ≤ 4 from nI_le (b := 4) (by omega) (by decide)), C_oddsL h b n hn, bnd_s, hP, hQ]
      unfold f_C_commonDivisor
      have hd := C_div_ok M 60 P Q fu 0 u6 u7 u1 (by decide) (by rw [fu_eq]; decide)
      rw [nI_0] at hd
      rw [hd, hE, bnd_s, bnd_s, if_pos (show (1 : Int32) ≤ nI E from nI_le (a := 1) (by omega) (by omega)), dvz_eq (nI_ne0 (by omega) (by omega)), dvz_eq (nI_ne0 (by omega) (by omega)), either_eq, bnd_s]
    · rw [e4, isIn_in hn (by decide), bnd_s, if_neg (by decide), isIn01, bnd_s]
      by_cases h01 : b = 0 ∨ b = 1
      · rw [if_pos h01, if_neg (by decide), h.2.2.2.2.2.1.1.2.2.2.2.1, nI_lit 100, pk_sub h.1.2.2.2.2.1, Mo_power_ok M _ n (by omega), bnd_s, Mo_power_ok M _ n (by omega), bnd_s, hP, hQ]
        unfold f_Mo_divisor
        rw [Mo_div_ok M 59 Q P fu u7 u6 u2 (by rw [fu_eq]; decide), bnd_s, bnd_s, ← u3, dvz_eq (nI_ne0 (by omega) (by omega)), dvz_eq (nI_ne0 (by omega) (by omega))]
        by_cases h0 : b = 0
        · rw [if_pos h0, if_pos h0]
        · rw [if_neg h0, if_neg h0, if_pos (h01.resolve_left h0)]
      · rw [if_neg h01, if_pos rfl, if_neg (fun q => h01 (Or.inl q)), if_neg (fun q => h01 (Or.inr q))]
  · refine ⟨-1, ?_, by rw [e4, isIn_out ho (by decide), bnd_s, if_pos rfl]⟩
    by_cases h0 : a < 0
    · rw [if_pos h0]
    · rw [if_neg h0, if_neg]
      have h1 := ho.resolve_left h0
      rw [Int32.le_iff_toInt_le] at h1 ⊢
      have e1 : (nI 5).toInt = 5 := by decide
      have e2 : (4 : Int32).toInt = 4 := by decide
      omega
