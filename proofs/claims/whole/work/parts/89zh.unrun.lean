/-! a unit with what opens before it -/
section UN
variable {B : Nat → Nat} {z : Nat}
theorem MO.cu {N0 N : AM} {q : Nat × Nat} (h : MO B z N0 (.inr q) N) : ∃ K, f_Mo_countUnit N = some ((), K) ∧ MO B z N0 (.inr q) K ∧ gI K 105 19 = gI N 105 19 := by
  obtain ⟨a, b⟩ := q
  obtain ⟨y1, y2, y3, y4⟩ := h
  unfold f_Mo_countUnit
  rw [wI_eq, wI_eq]
  refine ⟨_, rfl, ⟨(y1.sI (by unfold wM; omega)).sI (by unfold wM; omega), ?_, ?_, y4⟩, ?_⟩
  · rw [gI_sI, if_neg (by omega), gI_sI, if_neg (by omega)]; exact y2
  · rw [gI_sI, if_neg (by omega), gI_sI, if_neg (by omega)]; exact y3
  · rw [gI_sI, if_neg (by omega), gI_sI, if_neg (by omega)]
theorem UO.from {N0 N M : AM} {K0 K1 : Nat} {r : RSL} (hf : FR N0 N) (hk : K0 ≤ K1) (h : UO B z N K0 r M) : UO B z N0 K1 r M := by
  rcases h with ⟨K, i, S, E, a, b, c, d, e, f⟩ | ⟨q, a, b⟩
  · exact Or.inl ⟨K, i, S, E, by omega, b, c, d, e, hf.trans f⟩
  · exact Or.inr ⟨q, a, b.from hf⟩
theorem IV.len {u : Bool} {S : List Nat} {E : DT} (h : IV u S E) : S.length < 160 ∧ E 0 6 + nbS S ≤ 300 := by
  obtain ⟨a, b, c⟩ := h
  have := len_S S
  cases u with
  | true => obtain ⟨c1, c2⟩ := c; constructor <;> omega
  | false => obtain ⟨c1, c2⟩ := c; constructor <;> omega
theorem unit_run (hz : z ≤ 1600) (hB : ∀ i, i < z → B i < 256) : ∀ K i S E N y, ¬ MA (byt B z) K true i S E = .inr (0, 0) → K < y → YS B z N i S E → gI N 105 23 = nI (dpt S) → IV true S E → ∃ M, bnd (f_Mo_unit_l2 y 1 N) (fun _ M2 => utl M2) = some ((), M) ∧ UO B z N K (MA (byt B z) K true i S E) M := by
  intro K
  induction K with
  | zero => intro i S E N y hK; exact absurd rfl hK
  | succ K ih =>
    intro i S E N y hK hy h h23 hI
    obtain ⟨y, rfl⟩ : ∃ x, y = x + 2 := ⟨y - 2, by omega⟩
    have h2 : gI N 105 2 = 0 := h.1.2.2.1.1.1
    obtain ⟨hlen, hnb⟩ := hI.len
    obtain ⟨u30, d7, iv1, iv2⟩ := id hI
    have wn : f_Mo_isWord 7237492 N = some (if knd (byt B z) i = 139 then 1 else 0, N) := isWord_ok hz hB h.1.1 (k := 11) (by decide)
    have mn := mayNot_ok h.2.2.2.2.1 hlen h.2.2.1
    have un : f_Mo_unit_l2 (y + 2) 1 N = f_Mo_unit_b2 (f_Mo_unit_l2 (y + 1)) 1 N := rfl
    have i40 : gI N 105 6 = 40 ↔ knd (byt B z) i = 40 := (sI6 hz hB h.1.1 40 (by decide)).trans (srt_iff (by decide) (by decide))
    obtain ⟨W, w1, w2, w3, w4⟩ := wrong_ok hz hB h.1.1 h2 (k := 2) (by decide) (by decide)
    have w1' : f_Mo_wrong 2 N = some ((), W) := w1
    have w19 : gI W 105 19 = nI S.length := by rw [w3 105 19 (by omega)]; exact h.2.2.1
    have w2' : MO B z N (.inr ((if knd (byt B z) i = 1 then 1 else 2), plc (byt B z) i)) W := w2
    have stop0 : f_Mo_unit_l2 (y + 1) 0 N = some ((), N) := by
      show f_Mo_unit_b2 (f_Mo_unit_l2 y) 0 N = _
      unfold f_Mo_unit_b2
      rw [if_pos rfl]
    by_cases eA : knd (byt B z) i = 139 ∧ topt S < 4
    · have hred : f_Mo_unit_l2 (y + 2) 1 N = if (gI N 105 23) ≤ 6 then f_Mo_unit_j44 (f_Mo_unit_l2 (y + 1)) 1 N else bnd (f_Mo_wrong 2 N) (fun r5 M6 => f_Mo_unit_j44 (f_Mo_unit_l2 (y + 1)) 1 M6) := by
        rw [un]
        unfold f_Mo_unit_b2
        rw [if_neg (by decide), h2, if_pos rfl, wn, bnd_s, if_pos eA.1, if_neg (by decide), mn, bnd_s, if_pos eA.2, if_neg (by decide)]
      rw [hred, h23]
      rw [MA_u, if_pos eA] at hK ⊢
      unfold f_Mo_unit_j44
      by_cases ed : dpt S < 7
      · rw [if_pos ed] at hK ⊢
        rw [nI_lit 6, if_pos (nI_le (by omega) (by decide))]
        obtain ⟨K1, o1, o2, o3, o4⟩ := openUp_ok hz hB h h23 hlen (o := 21) (Or.inr rfl)
        have o1' : f_Mo_openUp 21 N = some ((), K1) := o1
        rw [o1', bnd_s]
        obtain ⟨M, x1, x2⟩ := ih (i + 1) (21 :: S) E K1 (y + 1) hK (by omega) o2 o3 ⟨u30, by show dpt S + 1 ≤ 7; omega, by show E 0 6 + (nbS S + 1) ≤ 9 * E 0 5 + (dpt S + 1); omega, by show opS S + 0 ≤ E 0 5; omega⟩
        exact ⟨M, x1, x2.from o4 (by omega)⟩
      · rw [if_neg ed]
        rw [nI_lit 6, if_neg (nI_ge (by omega) (by omega)), w1', bnd_s]
        obtain ⟨K2, p1, p2⟩ := openUp_no (v := 21) w2' w19 hlen
        rw [p1, bnd_s, (utl_no p2).2.2.1 y, bnd_s, (utl_no p2).1]
        exact ⟨K2, rfl, Or.inr ⟨_, rfl, p2⟩⟩
    · have hred : f_Mo_unit_l2 (y + 2) 1 N = f_Mo_unit_j53 (f_Mo_unit_l2 (y + 1)) 1 N := by
        rw [un]
        unfold f_Mo_unit_b2
        rw [if_neg (by decide), h2, if_pos rfl, wn, bnd_s]
        by_cases e9 : knd (byt B z) i = 139
        · rw [if_pos e9, if_neg (by decide), mn, bnd_s, if_neg (fun q => eA ⟨e9, q⟩), if_pos rfl]
        · rw [if_neg e9, if_pos rfl]
      rw [hred]
      unfold f_Mo_unit_j53
      by_cases e4 : knd (byt B z) i = 40
      · rw [if_pos (i40.mpr e4), isFull_ok h u30, bnd_s]
        rw [MA_u, if_neg eA, if_pos e4] at hK ⊢
        unfold f_Mo_unit_j78 f_Mo_unit_j83
        have bad : ∃ M, bnd (bnd (f_Mo_wrong 2 N) (fun r1 M2 => bnd (f_Mo_countUnit M2) (fun r1 M2 => bnd (f_Mo_openUp 20 M2) (fun r3 M4 => f_Mo_unit_l2 (y + 1) 1 M4)))) (fun _ M2 => utl M2) = some ((), M) ∧ UO B z N (K + 1) (flt (byt B z) i 2) M := by
          obtain ⟨K1, c1, c2, c3⟩ := w2'.cu
          obtain ⟨K2, p1, p2⟩ := openUp_no (v := 20) c2 (c3.trans w19) hlen
          rw [w1', bnd_s, c1, bnd_s, p1, bnd_s, (utl_no p2).2.2.1 y, bnd_s, (utl_no p2).1]
          exact ⟨K2, rfl, Or.inr ⟨_, rfl, p2⟩⟩
        by_cases eu : E 0 5 < 30
        · rw [if_neg (show ¬ E 0 5 = 30 by omega), if_pos rfl, h23]
          by_cases ed : dpt S < 7
          · rw [if_pos (show E 0 5 < 30 ∧ dpt S < 7 from ⟨eu, ed⟩)] at hK
            rw [nI_lit 6, if_pos (nI_le (by omega) (by decide)), if_pos (show E 0 5 < 30 ∧ dpt S < 7 from ⟨eu, ed⟩)]
            obtain ⟨K1, c1, c2, c3, c4⟩ := countUnit_ok h
            obtain ⟨K2, o1, o2, o3, o4⟩ := openUp_ok hz hB c2 (by rw [c4 105 23 (by omega)]; exact h23) hlen (o := 20) (Or.inl rfl)
            have o1' : f_Mo_openUp 20 K1 = some ((), K2) := o1
            rw [c1, bnd_s, o1', bnd_s]
            obtain ⟨M, x1, x2⟩ := ih (i + 1) (20 :: S) (untE E) K2 (y + 1) hK (by omega) o2 o3 ⟨by show E 0 5 + 1 ≤ 30; omega, by show dpt S + 1 ≤ 7; omega, by show E 0 6 + (nbS S + 0) ≤ 9 * (E 0 5 + 1) + (dpt S + 1); omega, by show opS S + 0 ≤ E 0 5 + 1; omega⟩
            exact ⟨M, x1, x2.from (c3.trans o4) (by omega)⟩
          · rw [nI_lit 6, if_neg (nI_ge (by omega) (by omega)), if_neg (show ¬ (E 0 5 < 30 ∧ dpt S < 7) from fun q => ed q.2)]
            exact bad
        · rw [if_pos (show E 0 5 = 30 by omega), if_neg (by decide), if_neg (show ¬ (E 0 5 < 30 ∧ dpt S < 7) from fun q => eu q.1)]
          exact bad
      · rw [if_neg (fun q => e4 (i40.mp q)), stop0, bnd_s]
        exact leaf_ok hz hB h h23 hI eA e4
end UN
