theorem actL50 {M : AM} {n : Nat} (hn : n < 40) (h : gI M 105 52 = nI n) : f_Mo_act_l50 fu 0 M = some ((), cpy M 124 (5 * n) 123 0 5) :=
  for_up (fun z (s : Int32 × AM) => f_Mo_act_l50 z s.1 s.2) (fun k => (nI k, cpy M 124 (5 * n) 123 0 k)) 5 _
    (fun k z hk => by
      show f_Mo_act_b50 (f_Mo_act_l50 z) (nI k) (cpy M 124 (5 * n) 123 0 k) = _
      unfold f_Mo_act_b50
      rw [nI_lit 5, if_neg (nI_ge hk (by decide)), ald_nI (by omega) (by decide), cpy_I (by omega) k 105 52, if_neg (by omega), h, pk_mul, nI_add, ast_nI (by omega) (by decide), nI_1]
      show f_Mo_act_l50 z (nI (k + 1)) _ = f_Mo_act_l50 z (nI (k + 1)) (sI (cpy M 124 (5 * n) 123 0 k) 124 (5 * n + k) (gI (cpy M 124 (5 * n) 123 0 k) 123 (0 + k)))
      rw [Nat.zero_add])
    (fun z => by
      show f_Mo_act_b50 (f_Mo_act_l50 z) (nI 5) (cpy M 124 (5 * n) 123 0 5) = _
      unfold f_Mo_act_b50
      rw [nI_lit 5, if_pos (nI_le (Nat.le_refl _) (by decide))]) 5 0 fu rfl (by rw [fu_eq]; decide)
theorem actL11 (M : AM) : f_Mo_act_l11 fu 0 M = some ((), cpy M 124 0 124 5 195) :=
  for_up (fun z (s : Int32 × AM) => f_Mo_act_l11 z s.1 s.2) (fun k => (nI k, cpy M 124 0 124 5 k)) 195 _
    (fun k z hk => by
      show f_Mo_act_b11 (f_Mo_act_l11 z) (nI k) (cpy M 124 0 124 5 k) = _
      unfold f_Mo_act_b11
      rw [nI_lit 195, if_neg (nI_ge hk (by decide)), nI_lit 5, nI_add, ald_nI (by omega) (by decide), ast_nI (by omega) (by decide), nI_1]
      show f_Mo_act_l11 z (nI (k + 1)) _ = f_Mo_act_l11 z (nI (k + 1)) (sI (cpy M 124 0 124 5 k) 124 (0 + k) (gI (cpy M 124 0 124 5 k) 124 (5 + k)))
      rw [Nat.zero_add])
    (fun z => by
      show f_Mo_act_b11 (f_Mo_act_l11 z) (nI 195) (cpy M 124 0 124 5 195) = _
      unfold f_Mo_act_b11
      rw [nI_lit 195, if_pos (nI_le (Nat.le_refl _) (by decide))]) 195 0 fu rfl (by rw [fu_eq]; decide)
theorem actJ48 {M : AM} {n : Nat} (hn : n < 40) (h : gI M 105 52 = nI n) : ∃ M', f_Mo_act_j48 M = some ((), M') ∧ (∀ c k, gI M' c k = if c = 105 ∧ k = 53 then 0 else if c = 105 ∧ k = 52 then nI (n + 1) else if c = 124 ∧ 5 * n ≤ k ∧ k < 5 * n + 5 then gI M 123 (k - 5 * n) else gI M c k) ∧ ∀ c k, gR M' c k = gR M c k := by
  unfold f_Mo_act_j48
  rw [actL50 hn h]
  refine ⟨?_, ?_, fun c k => ?_, fun c k => ?_⟩
  rotate_left
  · rw [bnd_s, wI_eq, wI_eq, cpy_I (by omega) 5 105 52, if_neg (by omega), h, nI_1]
  · rw [gI_sI, gI_sI, cpy_I (by omega), Nat.zero_add]
  · rw [gR_sI, gR_sI, cpy_R]
theorem act_ok {D : DT} {M : AM} (hM : MST D M) (hk : D 7 0 ≤ D 7 1 ∧ D 7 1 ≤ 40) : ∃ M1, f_Mo_act M = some ((), M1) ∧ MST (opn D) M1 ∧ (∀ c k, ¬ lMS c k → gI M1 c k = gI M c k) ∧ ∀ c k, gR M1 c k = gR M c k := by
  obtain ⟨a1, a2, a3, a4, a5⟩ := hM
  unfold f_Mo_act
  by_cases hn : D 7 0 < 40
  · have e70 : opn D 7 0 = D 7 0 + 1 := by rw [opn_70, if_pos hn]
    have e71 : opn D 7 1 = D 7 0 + 1 := by rw [opn_71, if_pos hn]
    obtain ⟨M', o1, o2, o3⟩ := actJ48 hn a1
    refine ⟨M', ?_, ⟨?_, ?_, fun i hi => ?_, fun j i hj hi => ?_, fun j i h1 h2 hi => ?_⟩, fun c k q => ?_, o3⟩
    · rw [a1, if_neg (fun q => by have := (nI_eq (b := 40) (by omega) (by decide)).mp q; omega)]; exact o1
    · rw [e70, o2, if_neg (by omega), if_pos (by omega)]
    · rw [e70, e71, o2, if_pos (by omega), Nat.sub_self]; rfl
    · rw [opn_cur (by omega), o2, if_neg (by omega), if_neg (by omega), if_neg (by omega)]; exact a3 i hi
    · rw [e70] at hj
      have ej : opn D (10 + j) = D (10 + j) := by unfold opn; rw [if_pos hn, rw1_n (by omega), rw1_n (by omega)]
      rw [ej, o2, if_neg (by omega), if_neg (by omega)]
      by_cases hjn : j = D 7 0
      · rw [if_pos (by omega), show 5 * j + i - 5 * D 7 0 = i by omega, hjn]; exact a3 i hi
      · rw [if_neg (by omega)]; exact a4 j i (by omega) hi
    · omega
    · rw [o2, if_neg (fun z => q (by unfold lMS; omega)), if_neg (fun z => q (by unfold lMS; omega)), if_neg (fun z => q (by unfold lMS; omega))]
  · have h40 : D 7 0 = 40 := by omega
    have e70 : opn D 7 0 = 40 := by rw [opn_70, if_neg hn]
    have e71 : opn D 7 1 = 40 := by rw [opn_71, if_neg hn]
    generalize hM3 : sI (cpy M 124 0 124 5 195) 105 52 (nI 39) = M3
    have i3 : ∀ c k, gI M3 c k = if c = 105 ∧ k = 52 then nI 39 else if c = 124 ∧ k < 195 then gI M 124 (5 + k) else gI M c k := fun c k => by
      rw [← hM3, gI_sI, cpy_I (by omega)]
      simp only [Nat.zero_le, true_and, Nat.zero_add, Nat.sub_zero]
    obtain ⟨M', o1, o2, o3⟩ := actJ48 (n := 39) (by omega) (show gI M3 105 52 = nI 39 by rw [i3]; rfl)
    refine ⟨M', ?_, ⟨?_, ?_, fun i hi => ?_, fun j i hj hi => ?_, fun j i h1 h2 hi => ?_⟩, fun c k q => ?_, fun c k => ?_⟩
    · rw [a1, h40, if_pos (by decide), actL11, bnd_s, wI_eq, cpy_I (by omega) 195 105 52, if_neg (by omega), a1, h40, show nI 40 - 1 = nI 39 by decide, hM3]; exact o1
    · rw [e70, o2, if_neg (by omega), if_pos (by omega)]
    · rw [e70, e71, o2, if_pos (by omega)]; rfl
    · rw [opn_cur (by omega), o2, if_neg (by omega), if_neg (by omega), if_neg (by omega), i3, if_neg (by omega), if_neg (by omega)]; exact a3 i hi
    · rw [e70] at hj
      have ej : opn D (10 + j) = D (10 + (j + 1)) := by unfold opn; rw [if_neg hn, if_neg (by omega), if_pos (by omega)]; rfl
      rw [ej, o2, if_neg (by omega), if_neg (by omega)]
      by_cases hjn : j = 39
      · rw [if_pos (by omega), show 5 * j + i - 5 * 39 = i by omega, i3, if_neg (by omega), if_neg (by omega), a3 i hi, hjn, h40]
      · rw [if_neg (by omega), i3, if_neg (by omega), if_pos (by omega), show 5 + (5 * j + i) = 5 * (j + 1) + i by omega]
        exact a4 (j + 1) i (by omega) hi
    · omega
    · rw [o2, if_neg (fun z => q (by unfold lMS; omega)), if_neg (fun z => q (by unfold lMS; omega)), if_neg (fun z => q (by unfold lMS; omega)), i3, if_neg (fun z => q (by unfold lMS; omega)), if_neg (fun z => q (by unfold lMS; omega))]
    · rw [o3, ← hM3, gR_sI, cpy_R]
theorem Rel.le {D : DT} {M : AM} (h : Rel D M) : D 7 0 ≤ D 7 1 ∧ D 7 1 ≤ 40 := ⟨h.2.1.1, h.2.1.2.1⟩
theorem Rel.le40 {D : DT} {M : AM} (h : Rel D M) : D 7 0 ≤ 40 := Nat.le_trans h.2.1.1 h.2.1.2.1
/-- one act, from the two sides' writings -/
theorem Rel.act' {D : DT} {M M0 M1 N0 N1 : AM} (h : Rel D M) (s : Nat → Nat) (hs : s 0 < 2 ^ D 0 0 ∧ s 1 < 2 ^ D 0 1 ∧ s 3 ≤ 999 ∧ s 4 < 1000)
    (hC : CST (opn D) M0) (f0 : ∀ c k, ¬ lCS c k → gI M0 c k = gI M c k) (r0 : ∀ c k, c ≠ 39 → gR M0 c k = gR M c k)
    (hi : ∀ i, i < 5 → gI M1 (gR M0 39 (opn D 7 0)) i = nI (s i)) (ho : ∀ c k, c ≠ gR M0 39 (opn D 7 0) → ¬ (scr c k ∨ (19 ≤ c ∧ c ≤ 22) ∨ (34 ≤ c ∧ c ≤ 37)) → gI M1 c k = gI M0 c k) (r1 : ∀ c k, gR M1 c k = gR M0 c k)
    (hM : MST (opn D) N0) (g0 : ∀ c k, ¬ lMS c k → gI N0 c k = gI M1 c k) (q0 : ∀ c k, gR N0 c k = gR M1 c k)
    (hj : ∀ i, i < 5 → gI N1 123 i = nI (s i)) (hp : ∀ c k, c ≠ 123 → ¬ scr c k → gI N1 c k = gI N0 c k) (q1 : ∀ c k, gR N1 c k = gR N0 c k)
    (hcc : CCH D M1 (gR M 0 3)) : Rel (setc (opn D) s) N1 := by
  have hl := opn_le h.le40
  have hcell := hC.2.2.1 (opn D 7 0) (by omega)
  refine h.act (M1 := M1) s hs ?_ (fun c k q => ?_) (fun c k q => (r1 c k).trans (r0 c k q)) ?_ (fun c k q => ?_) (fun c k => (q1 c k).trans (q0 c k)) hcc
  · refine hC.setc hl hi (fun c k h1 h2 q => ?_) (fun j => r1 39 j)
    by_cases hx : c = 38 ∧ False
    · exact absurd hx.2 id
    · exact ho c k q (by unfold scr; omega)
  · rw [ho c k (fun e => q (Or.inl (by unfold lCS; omega))) (fun z => q (Or.inr z)), f0 c k (fun z => q (Or.inl z))]
  · exact hM.setc hj (fun c k q1 q2 => hp c k q2 (by unfold lMS at q1; unfold scr; omega))
  · rw [hp c k (fun e => q (Or.inl (by unfold lMS; omega))) (fun z => q (Or.inr z)), g0 c k (fun z => q (Or.inl z))]
theorem CCH.keep {D : DT} {M M' : AM} (h : Rel D M) (g : ∀ c k, 8 ≤ c → c ≤ 37 → gI M' c k = gI M c k) : CCH D M' (gR M 0 3) := h.2.2.2.2.1.cg h.2.2.1.or (fun c k q => g c k q.1 q.2)
theorem Rel.curS {D : DT} {M : AM} (h : Rel D M) : D (10 + D 7 0) 0 < 2 ^ D 0 0 ∧ D (10 + D 7 0) 1 < 2 ^ D 0 1 ∧ D (10 + D 7 0) 3 ≤ 999 ∧ D (10 + D 7 0) 4 < 1000 := h.st
