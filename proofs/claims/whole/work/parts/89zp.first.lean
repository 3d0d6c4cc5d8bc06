/-! the first state -/
theorem Rel_M1 : Rel Z0 M1 := by
  have r39 : ∀ j, j < 41 → gR M1 39 j = 40 + j := by decide +kernel
  have r82 : ∀ b, b < 3 → gR M1 82 b = 83 + b := by decide +kernel
  have r03 : gR M1 0 3 = 8 := by decide +kernel
  have r04 : gR M1 0 4 = 23 := by decide +kernel
  have e0 : nI 0 = 0 := rfl
  refine ⟨okP_of okN_Z0, ?_, ⟨Or.inl ⟨r03, r04⟩, rfl, rfl⟩, ?_, ?_, ?_, ?_, ?_, ?_, ?_, ?_, ?_⟩
  · exact ⟨Nat.le_refl _, Nat.zero_le _, fun j _ => ⟨(show 0 < 2 ^ 0 by decide), (show 0 < 2 ^ 0 by decide), Nat.zero_le _, (show 0 < 1000 by decide)⟩, fun b hb => ⟨Nat.zero_le _, fun q => absurd (show (0 : Nat) = 1 from q) (by decide)⟩, Nat.zero_le _, Nat.zero_le _, Nat.zero_le _, Nat.zero_le _, fun i hi => absurd hi (Nat.not_lt_zero i), fun i hi => absurd hi (Nat.not_lt_zero i)⟩
  · rw [r03]
    exact ⟨⟨rfl, rfl, rfl, rfl, rfl, rfl, rfl⟩, fun l hl => absurd hl (Nat.not_lt_zero l), fun c hc => absurd hc (Nat.not_lt_zero c), fun s hs => rfl, fun i hi => absurd hi (Nat.not_lt_zero i)⟩
  · intro l lit near hl
    exact absurd hl (Nat.not_lt_zero l)
  · exact ⟨⟨rfl, rfl, rfl, rfl, rfl, rfl, rfl, rfl⟩, fun l hl => absurd hl (Nat.not_lt_zero l), fun c hc => absurd hc (Nat.not_lt_zero c), fun i hi => absurd hi (Nat.not_lt_zero i)⟩
  · refine ⟨rfl, rfl, fun j hj => ?_, fun i j hi hj x => ?_, fun j i hj hi => ?_⟩
    · rw [r39 j (by omega)]; omega
    · rw [r39 i (by omega), r39 j (by omega)] at x; omega
    · have hj0 : j = 0 := Nat.le_zero.mp hj
      subst hj0
      rw [r39 0 (by omega)]
      rfl
  · exact ⟨rfl, rfl, fun i hi => rfl, fun j i hj => absurd hj (Nat.not_lt_zero j), fun j i h1 h2 => absurd h2 (Nat.not_lt_zero j)⟩
  · exact ⟨rfl, fun b hb => ⟨r82 b hb, rfl, fun q => absurd (show (0 : Nat) = 1 from q) (by decide)⟩⟩
  · exact ⟨rfl, rfl, fun i hi => absurd hi (Nat.not_lt_zero i), rfl, rfl⟩
  · exact ⟨rfl, rfl, rfl, rfl, fun i hi => absurd hi (Nat.not_lt_zero i)⟩
  · exact ⟨rfl, rfl, fun i hi => absurd hi (Nat.not_lt_zero i)⟩
