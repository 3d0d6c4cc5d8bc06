/-! a unit of the dusk, run -/
noncomputable def utl (M2 : AM) : Option (Unit × AM) := if (gI M2 105 2) ≤ 0 then bnd (f_Mo_asked M2) (fun r3 M4 => if (gI M4 105 6) = 2 then f_Mo_unit_j126 r3 M4 else if r3 < 0 then f_Mo_unit_j133 r3 M4 else f_Mo_unit_j126 r3 M4) else some ((), M2)
section UR
variable {B : Nat → Nat} {z : Nat}
/-- how a unit ends -/
def UO (B : Nat → Nat) (z : Nat) (N : AM) (K0 : Nat) (r : RSL) (M : AM) : Prop := (∃ K i S E, K < K0 ∧ r = MA (byt B z) K false i S E ∧ YS B z M i S E ∧ gI M 105 23 = nI (dpt S) ∧ IV false S E ∧ FR N M) ∨ ∃ q, r = .inr q ∧ MO B z N (.inr q) M
theorem utl_no {N0 N : AM} {q : Nat × Nat} (h : MO B z N0 (.inr q) N) : utl N = some ((), N) ∧ f_Mo_unit_l2 1 1 N = some ((), N) ∧ (∀ y, f_Mo_unit_l2 (y + 1) 1 N = some ((), N)) ∧ ∀ v, f_Mo_unit_j138 v N = some ((), N) := by
  rcases h.cases with ⟨j, E', g1, -⟩ | ⟨q', g1, g2, g3, g4⟩
  · cases g1
  · have l : ∀ y, f_Mo_unit_l2 (y + 1) 1 N = some ((), N) := fun y => by
      show f_Mo_unit_b2 (f_Mo_unit_l2 y) 1 N = _
      unfold f_Mo_unit_b2
      rw [if_neg (by decide), if_neg g2]
    refine ⟨by unfold utl; rw [if_neg g3], l 0, l, fun v => by unfold f_Mo_unit_j138; rw [if_neg g3]⟩
theorem leaf_ok (hz : z ≤ 1600) (hB : ∀ i, i < z → B i < 256) {N : AM} {i K : Nat} {S : List Nat} {E : DT} (h : YS B z N i S E) (h23 : gI N 105 23 = nI (dpt S)) (hI : IV true S E) (n9 : ¬ (knd (byt B z) i = 139 ∧ topt S < 4)) (n4 : ¬ knd (byt B z) i = 40) : ∃ M, utl N = some ((), M) ∧ UO B z N (K + 1) (MA (byt B z) (K + 1) true i S E) M := by
  have h2 : gI N 105 2 = 0 := h.1.2.2.1.1.1
  obtain ⟨u30, d7, iv1, iv2⟩ := hI
  rw [MA_u, if_neg n9, if_neg n4]
  obtain ⟨W, w1, w2, w3, w4⟩ := wrong_ok hz hB h.1.1 h2 (k := 2) (by decide) (by decide)
  have w1' : f_Mo_wrong 2 N = some ((), W) := w1
  have bad : ∀ v, ∃ M, f_Mo_unit_j133 v N = some ((), M) ∧ UO B z N (K + 1) (flt (byt B z) i 2) M := fun v => by
    unfold f_Mo_unit_j133
    rw [w1', bnd_s, (utl_no (q := ((if knd (byt B z) i = 1 then 1 else 2), plc (byt B z) i)) w2).2.2.2 v]
    exact ⟨W, rfl, Or.inr ⟨_, rfl, w2⟩⟩
  have good : E 0 5 < 30 → ∀ (v a b : Int32) (x y : Nat), a = nI x → b = nI y → (∀ M, gI M 105 8 = gI N 105 8 → (if 0 ≤ v then f_Mo_unit_j160 v 1 M else f_Mo_unit_j160 v 0 M) = f_Mo_unit_j172 a b M) → ∃ M, f_Mo_unit_j138 v N = some ((), M) ∧ UO B z N (K + 1) (MA (byt B z) K false (i + 1) S (putE (untE E) x y)) M := fun hu v a b x y ha hb hv => by
    obtain ⟨K1, c1, c2, c3, c4⟩ := countUnit_ok h
    unfold f_Mo_unit_j138
    rw [h2, if_pos (by decide), c1, bnd_s, hv K1 (c4 105 8 (by omega)), ha, hb]
    unfold f_Mo_unit_j172
    obtain ⟨K2, a1, a2, a3, a4⟩ := add_ok c2 (show untE E 0 6 < 320 by show E 0 6 < 320; omega) x y
    obtain ⟨K3, t1, t2, t3⟩ := mstep hz hB a2.1
    rw [a1, bnd_s, t1, bnd_s]
    refine ⟨K3, rfl, Or.inl ⟨K, i + 1, S, _, by omega, rfl, a2.fm t2 t3, ?_, ⟨?_, d7, ?_, ?_⟩, (c3.trans a3).trans t3.fr⟩⟩
    · rw [t3.2.1 105 23 (by omega), a4 105 23 (by omega), c4 105 23 (by omega)]; exact h23
    · show E 0 5 + 1 ≤ 30; omega
    · show E 0 6 + 1 + nbS S + 1 ≤ 9 * (E 0 5 + 1); omega
    · show opS S + 1 ≤ E 0 5 + 1; omega
  unfold utl
  rw [h2, if_pos (by decide), asked_ok hz hB h.1.1, bnd_s]
  have full : ∀ v, f_Mo_unit_j126 v N = if E 0 5 = 30 then f_Mo_unit_j133 v N else f_Mo_unit_j138 v N := fun v => by
    unfold f_Mo_unit_j126
    rw [isFull_ok h u30, bnd_s]
    by_cases e : E 0 5 = 30
    · rw [if_pos e, if_pos e, if_neg (by decide)]
    · rw [if_neg e, if_neg e, if_pos rfl]
  by_cases e3 : knd (byt B z) i = 3
  · rw [if_pos ((sI6 hz hB h.1.1 2 (by decide)).mpr (srt_2'.mpr e3)), if_pos (Or.inr e3), full, if_pos e3, if_pos e3, if_neg (show ¬ (140 ≤ knd (byt B z) i ∧ knd (byt B z) i ≤ 145) by omega)]
    by_cases eu : E 0 5 < 30
    · rw [if_neg (show ¬ E 0 5 = 30 by omega), if_pos eu]
      refine good eu (-1) 0 (gI N 105 8) 0 _ rfl (h.1.1.2.2.2.1 e3) (fun M hM => ?_)
      rw [if_neg (by decide)]
      unfold f_Mo_unit_j160
      rw [if_neg (by decide), hM]
    · rw [if_pos (show E 0 5 = 30 by omega), if_neg eu]
      exact bad _
  · rw [if_neg (fun q => e3 (srt_2'.mp ((sI6 hz hB h.1.1 2 (by decide)).mp q)))]
    by_cases eg : 140 ≤ knd (byt B z) i ∧ knd (byt B z) i ≤ 145
    · rw [if_pos eg, if_neg (nI_lt0 (by omega)), full, if_pos (Or.inl eg), if_neg e3, if_neg e3]
      by_cases eu : E 0 5 < 30
      · rw [if_neg (show ¬ E 0 5 = 30 by omega), if_pos eu]
        refine good eu _ 1 _ 1 _ rfl rfl (fun M hM => ?_)
        have h0 : (0 : Int32) ≤ nI (knd (byt B z) i - 140) := nI_le (a := 0) (Nat.zero_le _) (by omega)
        rw [if_pos h0]
        unfold f_Mo_unit_j160
        rw [if_pos h0]
      · rw [if_pos (show E 0 5 = 30 by omega), if_neg eu]
        exact bad _
    · rw [if_neg eg, if_pos (by decide), if_neg (show ¬ ((140 ≤ knd (byt B z) i ∧ knd (byt B z) i ≤ 145) ∨ knd (byt B z) i = 3) from fun q => q.elim eg e3)]
      exact bad _
end UR
