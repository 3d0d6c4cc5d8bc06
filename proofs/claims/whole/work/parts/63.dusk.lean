/-! the dusk's formula -/
section EV
variable {D : DT} {g : Nat → Int32}
theorem evs_0 {n : Nat} (h : D 5 n = 0) : evs D g (n + 1) = ((evs D g n).1 + 1, fun j => if j = (evs D g n).1 then nI (D 6 n) else (evs D g n).2 j) := by
  simp only [evs, h, if_true]
theorem evs_1 {n : Nat} (h : D 5 n = 1) : evs D g (n + 1) = ((evs D g n).1 + 1, fun j => if j = (evs D g n).1 then g (D 6 n) else (evs D g n).2 j) := by
  simp only [evs, h]; rfl
theorem evs_2 {n : Nat} (h : D 5 n = 2) : evs D g (n + 1) = ((evs D g n).1, fun j => if j = (evs D g n).1 - 1 then (if (evs D g n).2 ((evs D g n).1 - 1) = 0 then 1 else 0) else (evs D g n).2 j) := by
  simp only [evs, h]; rfl
theorem evs_3 {n : Nat} (h : D 5 n = 3) : evs D g (n + 1) = ((evs D g n).1 - 1, fun j => if j = (evs D g n).1 - 2 then done2 (D 6 n) ((evs D g n).2 ((evs D g n).1 - 2)) ((evs D g n).2 ((evs D g n).1 - 1)) else (evs D g n).2 j) := by
  simp only [evs, h]; rfl
theorem hgt_pre {n h : Nat} (q : hgt D (n + 1) = some h) : ∃ h', hgt D n = some h' := by
  cases hz : hgt D n with
  | none => rw [hgt, hz] at q; cases q
  | some h' => exact ⟨h', rfl⟩
theorem hgt_ev : ∀ {n h : Nat}, hgt D n = some h → (evs D g n).1 = h := by
  intro n
  induction n with
  | zero => intro h q; exact Option.some.inj q
  | succ n ih =>
    intro h q
    obtain ⟨h', hz⟩ := hgt_pre q
    have e := ih hz
    rw [hgt, hz] at q
    simp only at q
    by_cases h0 : D 5 n ≤ 1
    · rw [if_pos h0] at q
      rcases (show D 5 n = 0 ∨ D 5 n = 1 by omega) with z | z
      · rw [evs_0 z, ← Option.some.inj q, ← e]
      · rw [evs_1 z, ← Option.some.inj q, ← e]
    · rw [if_neg h0] at q
      by_cases h2 : D 5 n = 2
      · rw [if_pos h2] at q
        by_cases h1 : 1 ≤ h'
        · rw [if_pos h1] at q
          rw [evs_2 h2, ← Option.some.inj q, ← e]
        · rw [if_neg h1] at q; cases q
      · rw [if_neg h2] at q
        by_cases h1 : 2 ≤ h'
        · rw [if_pos h1] at q
          simp only [evs]
          rw [if_neg (by omega), if_neg (by omega), if_neg h2, ← Option.some.inj q, ← e]
        · rw [if_neg h1] at q; cases q
theorem hgt_all {n h : Nat} (q : hgt D n = some h) : ∀ k, k ≤ n → ∃ h', hgt D k = some h' := by
  induction n generalizing h with
  | zero => intro k hk; exact ⟨h, by rw [show k = 0 by omega]; exact q⟩
  | succ n ih =>
    intro k hk
    by_cases hkn : k = n + 1
    · exact ⟨h, by rw [hkn]; exact q⟩
    · obtain ⟨h', hz⟩ := hgt_pre q
      exact ih hz k (by omega)
end EV
theorem join_ok {v : Nat} (h : v = 43 ∨ v = 45 ∨ v = 42 ∨ v = 47 ∨ v = 37 ∨ v = 60 ∨ v = 62 ∨ v = 61 ∨ v = 38 ∨ v = 124) (a b : Int32) (M : AM) : (¬ 0 ≤ cstep 3 v ∧ (-140) < cstep 3 v ∧ ¬ cstep 3 v = -139) ∧ f_Form_join (-(cstep 3 v)) a b M = some (done2 v a b, M) := by
  rcases h with rfl | rfl | rfl | rfl | rfl | rfl | rfl | rfl | rfl | rfl
  · refine ⟨by decide, ?_⟩
    rw [show -(cstep 3 43) = 43 by decide]; rfl
  · refine ⟨by decide, ?_⟩
    rw [show -(cstep 3 45) = 45 by decide]; rfl
  · refine ⟨by decide, ?_⟩
    rw [show -(cstep 3 42) = 42 by decide]; rfl
  · refine ⟨by decide, ?_⟩
    rw [show -(cstep 3 47) = 47 by decide]
    show (if b = 0 then some (0, M) else dvz b (some (a / b, M))) = some (if b = 0 then 0 else a / b, M)
    by_cases hb : b = 0
    · rw [if_pos hb, if_pos hb]
    · rw [if_neg hb, if_neg hb, dvz_eq hb]
  · refine ⟨by decide, ?_⟩
    rw [show -(cstep 3 37) = 37 by decide]
    show (if b = 0 then some (0, M) else dvz b (some (a % b, M))) = some (if b = 0 then 0 else a % b, M)
    by_cases hb : b = 0
    · rw [if_pos hb, if_pos hb]
    · rw [if_neg hb, if_neg hb, dvz_eq hb]
  · refine ⟨by decide, ?_⟩
    rw [show -(cstep 3 60) = 60 by decide]
    show (if b ≤ a then some (0, M) else some (1, M)) = some (if a < b then 1 else 0, M)
    by_cases hb : b ≤ a
    · rw [if_pos hb, if_neg]
      rw [Int32.lt_iff_toInt_lt]; rw [Int32.le_iff_toInt_le] at hb; omega
    · rw [if_neg hb, if_pos]
      rw [Int32.lt_iff_toInt_lt]; rw [Int32.le_iff_toInt_le] at hb; omega
  · refine ⟨by decide, ?_⟩
    rw [show -(cstep 3 62) = 62 by decide]
    show (if a ≤ b then some (0, M) else some (1, M)) = some (if b < a then 1 else 0, M)
    by_cases hb : a ≤ b
    · rw [if_pos hb, if_neg]
      rw [Int32.lt_iff_toInt_lt]; rw [Int32.le_iff_toInt_le] at hb; omega
    · rw [if_neg hb, if_pos]
      rw [Int32.lt_iff_toInt_lt]; rw [Int32.le_iff_toInt_le] at hb; omega
  · refine ⟨by decide, ?_⟩
    rw [show -(cstep 3 61) = 61 by decide]
    show (if a = b then some (1, M) else some (0, M)) = some (if a = b then 1 else 0, M)
    by_cases hb : a = b
    · rw [if_pos hb, if_pos hb]
    · rw [if_neg hb, if_neg hb]
  · refine ⟨by decide, ?_⟩
    rw [show -(cstep 3 38) = 138 by decide]
    show (if a = 0 then some (0, M) else if b = 0 then some (0, M) else some (1, M)) = some (if ¬ a = 0 ∧ ¬ b = 0 then 1 else 0, M)
    by_cases ha : a = 0 <;> by_cases hb : b = 0 <;> simp [ha, hb]
  · refine ⟨by decide, ?_⟩
    rw [show -(cstep 3 124) = 137 by decide]
    show (if a = 0 then if b = 0 then some (0, M) else some (1, M) else some (1, M)) = some (if ¬ a = 0 ∨ ¬ b = 0 then 1 else 0, M)
    by_cases ha : a = 0 <;> by_cases hb : b = 0 <;> simp [ha, hb]
theorem moDone_ok {v : Nat} (h : v = 43 ∨ v = 45 ∨ v = 42 ∨ v = 47 ∨ v = 37 ∨ v = 60 ∨ v = 62 ∨ v = 61 ∨ v = 38 ∨ v = 124) (a b : Int32) (M : AM) : f_Mo_done (nI v) a b M = some (done2 v a b, M) := by
  rcases h with rfl | rfl | rfl | rfl | rfl | rfl | rfl | rfl | rfl | rfl
  · rfl
  · rfl
  · rfl
  · show (if b = 0 then some (0, M) else dvz b (some (a / b, M))) = some (if b = 0 then 0 else a / b, M)
    by_cases hb : b = 0
    · rw [if_pos hb, if_pos hb]
    · rw [if_neg hb, if_neg hb, dvz_eq hb]
  · show (if b = 0 then some (0, M) else dvz b (some (a % b, M))) = some (if b = 0 then 0 else a % b, M)
    by_cases hb : b = 0
    · rw [if_pos hb, if_pos hb]
    · rw [if_neg hb, if_neg hb, dvz_eq hb]
  · show (if b ≤ a then some (0, M) else some (1, M)) = some (if a < b then 1 else 0, M)
    by_cases hb : b ≤ a
    · rw [if_pos hb, if_neg]
      rw [Int32.lt_iff_toInt_lt]; rw [Int32.le_iff_toInt_le] at hb; omega
    · rw [if_neg hb, if_pos]
      rw [Int32.lt_iff_toInt_lt]; rw [Int32.le_iff_toInt_le] at hb; omega
  · show (if a ≤ b then some (0, M) else some (1, M)) = some (if b < a then 1 else 0, M)
    by_cases hb : a ≤ b
    · rw [if_pos hb, if_neg]
      rw [Int32.lt_iff_toInt_lt]; rw [Int32.le_iff_toInt_le] at hb; omega
    · rw [if_neg hb, if_pos]
      rw [Int32.lt_iff_toInt_lt]; rw [Int32.le_iff_toInt_le] at hb; omega
  · show (if a = b then some (1, M) else some (0, M)) = some (if a = b then 1 else 0, M)
    by_cases hb : a = b
    · rw [if_pos hb, if_pos hb]
    · rw [if_neg hb, if_neg hb]
  · show (if a = 0 then some (0, M) else if b = 0 then some (0, M) else some (1, M)) = some (if ¬ a = 0 ∧ ¬ b = 0 then 1 else 0, M)
    by_cases ha : a = 0 <;> by_cases hb : b = 0 <;> simp [ha, hb]
  · show (if a = 0 then if b = 0 then some (0, M) else some (1, M) else some (1, M)) = some (if ¬ a = 0 ∨ ¬ b = 0 then 1 else 0, M)
    by_cases ha : a = 0 <;> by_cases hb : b = 0 <;> simp [ha, hb]
