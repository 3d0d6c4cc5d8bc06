/-! the dusk, run by the reference -/
theorem clo_iv (t : Nat) : ∀ S E, (clo t S E).2 0 6 + nbS (clo t S E).1 = E 0 6 + nbS S ∧ opS (clo t S E).1 ≤ opS S ∧ dpt (clo t S E).1 ≤ dpt S ∧ (clo t S E).2 0 5 = E 0 5 := by
  intro S
  induction S with
  | nil => intro E; exact ⟨rfl, Nat.le_refl _, Nat.le_refl _, rfl⟩
  | cons o S ih =>
    intro E
    rw [clo_c]
    by_cases e : o = 20
    · rw [if_pos e]; exact ⟨rfl, Nat.le_refl _, Nat.le_refl _, rfl⟩
    · rw [if_neg e]
      by_cases e2 : tgt o < t
      · rw [if_pos e2]; exact ⟨rfl, Nat.le_refl _, Nat.le_refl _, rfl⟩
      · rw [if_neg e2]
        obtain ⟨a, b, c, d⟩ := ih (adp o E)
        have e6 : adp o E 0 6 = E 0 6 + 1 := by unfold adp; split <;> rfl
        have e5 : adp o E 0 5 = E 0 5 := by unfold adp; split <;> rfl
        have n1 : nbS (o :: S) = nbS S + 1 := by
          show nbS S + (if o = 20 then 0 else 1) = _
          rw [if_neg e]
        have n2 : opS (o :: S) = opS S + (if o = 20 ∨ o = 21 then 0 else 1) := rfl
        have n3 : dpt (o :: S) = dpt S + (if o = 20 ∨ o = 21 then 1 else 0) := rfl
        exact ⟨by omega, by omega, by omega, by omega⟩
theorem clo_brk : ∀ S E, brk S = true → ∃ S', (clo 0 S E).1 = 20 :: S' := by
  intro S
  induction S with
  | nil => intro E h; cases h
  | cons o S ih =>
    intro E h
    rw [clo_c]
    by_cases e : o = 20
    · rw [if_pos e]; exact ⟨S, by rw [e]⟩
    · rw [if_neg e, if_neg (Nat.not_lt_zero _)]
      have hb : brk (o :: S) = brk S := if_neg e
      exact ih _ (by rw [← hb]; exact h)
noncomputable def fendJ (M11 : AM) : Option (Unit × AM) := bnd (if (gI M11 105 2) = 0 then bnd (f_Mo_hasBracket M11) (fun r12 M13 => if r12 = 0 then f_Mo_formula_j181 M13 else bnd (f_Mo_wrong 2 M13) (fun r14 M15 => f_Mo_formula_j181 M15)) else f_Mo_formula_j181 M11) (fun _ M => f_Mo_readLine_j216 M)
section MY
variable {B : Nat → Nat} {z : Nat}
theorem close_ok {N : AM} {i : Nat} {S : List Nat} {E : DT} {t : Nat} (ht : t < 300) (h : YS B z N i S E) (h23 : gI N 105 23 = nI (dpt S)) {u : Bool} (hI : IV u S E) : ∃ K, f_Mo_close (nI t) N = some ((), K) ∧ YS B z K i (clo t S E).1 (clo t S E).2 ∧ gI K 105 23 = nI (dpt (clo t S E).1) ∧ FR N K := by
  obtain ⟨l1, l2⟩ := hI.len
  obtain ⟨a, b, c⟩ := id hI
  have hl : S.length ≤ 100 := by
    have := len_S S
    cases u with
    | true => obtain ⟨c1, c2⟩ := c; omega
    | false => obtain ⟨c1, c2⟩ := c; omega
  obtain ⟨K, k1, k2, k3, k4⟩ := close_loop ht S N E fu hl (by rw [fu_eq]; omega) (by omega) h h23
  unfold f_Mo_close
  rw [k1, bnd_s]
  exact ⟨K, rfl, k2, k3, k4⟩
theorem fend_no {N0 N : AM} {q : Nat × Nat} (hz : z ≤ 1600) (hB : ∀ i, i < z → B i < 256) (h : MO B z N0 (.inr q) N) : ∃ M, fendJ N = some ((), M) ∧ MO B z N0 (.inr q) M := by
  rcases h.cases with ⟨j, E', g1, -⟩ | ⟨q', g1, g2, g3, g4⟩
  · cases g1
  · unfold fendJ f_Mo_formula_j181
    rw [if_neg g2, if_neg g2, bnd_s]
    obtain ⟨M, x1, x2⟩ := mend_ok hz hB h
    exact ⟨M, x1, x2⟩
theorem fend_ok (hz : z ≤ 1600) (hB : ∀ i, i < z → B i < 256) {N : AM} {i : Nat} {S : List Nat} {E : DT} (h : YS B z N i S E) (h23 : gI N 105 23 = nI (dpt S)) (hI : IV false S E) : ∃ M, fendJ N = some ((), M) ∧ MO B z N (finY (byt B z) i S E) M := by
  have h2 : gI N 105 2 = 0 := h.1.2.2.1.1.1
  obtain ⟨l1, l2⟩ := hI.len
  unfold finY
  by_cases eb : brk S = true
  · rw [if_pos eb]
    obtain ⟨W, w1, w2, w3, w4⟩ := wrong_ok hz hB h.1.1 h2 (k := 2) (by decide) (by decide)
    have w1' : f_Mo_wrong 2 N = some ((), W) := w1
    rcases w2.cases with ⟨j, E', g1, -⟩ | ⟨q', g1, g2, g3, g4⟩
    · cases g1
    · unfold fendJ f_Mo_formula_j181
      rw [h2, if_pos rfl, hasBracket_ok h.2.2.2.2.1 l1 h.2.2.1, bnd_s, if_pos eb, if_neg (by decide), w1', bnd_s, if_neg g2, bnd_s]
      exact mend_ok hz hB w2
  · rw [if_neg eb]
    obtain ⟨K, k1, k2, k3, k4⟩ := close_ok (t := 0) (by decide) h h23 hI
    have k1' : f_Mo_close 0 N = some ((), K) := k1
    unfold fendJ f_Mo_formula_j181
    rw [h2, if_pos rfl, hasBracket_ok h.2.2.2.2.1 l1 h.2.2.1, bnd_s, if_neg eb, if_pos rfl, h2, if_pos rfl, k1', bnd_s, bnd_s]
    obtain ⟨M, x1, x2⟩ := mend_ok hz hB (N0 := N) (N := K) (r := .inl (i, (clo 0 S E).2)) ⟨k4, k2.1⟩
    exact ⟨M, x1, x2⟩
end MY
