theorem law_ok {L : Nat} {xs : Nat → Int32} (hL : L ≤ 3072) : ∃ M', f_Law_law_l18 L xs fu 0 M1 = some (.inl ((), M')) := sorry
