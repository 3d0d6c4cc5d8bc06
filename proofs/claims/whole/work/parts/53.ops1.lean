/-! questions without scratch -/
theorem swi_at {β : Type} {x : Int32} {l : List (Int32 × Option β)} {E : Option β} : swi x l E = match l.find? (fun q => q.1 == x) with | some q => q.2 | none => E := by
  induction l with
  | nil => rfl
  | cons q l ih =>
    obtain ⟨k, A⟩ := q
    rw [swi, List.find?_cons]
    by_cases h : x = k
    · subst h; simp
    · rw [if_neg h, ih]
      have : (k == x) = false := by simpa using fun e => h e.symm
      rw [this]
theorem B_lamp (a b : Int32) : Both (f_C_lamp a b) (f_Mo_lamp a b) := by
  refine Both.pure fun D M h => ?_
  unfold f_C_lamp f_Mo_lamp
  rw [ckK_eq (pl_kd h)]
  rcases in_cases a (D 0 0) (by have := nlt h; omega) with ⟨j, hj, rfl⟩ | ho
  · have hnl := h.1.1
    rw [hasLamp_in h hj, isLamp_in h hj, bnd_s, bnd_s, if_neg (by decide), if_neg (by decide)]
    have hp := h.2.2.2.1.2.1 j hj
    have hm := h.2.2.2.2.2.1.2.1 j hj
    simp only [swi]
    by_cases b0 : b = 0
    · simp only [b0, if_true]
      exact ⟨_, by rw [cur_ok h, bnd_s, cst h (by decide)], by rw [now_ald h 0 0 rfl (by decide)]⟩
    by_cases b1 : b = 1
    · subst b1
      exact ⟨_, by rw [if_neg b0, if_pos rfl, ckK_eq (pl_kd h), ald_nI (by omega) (by decide), hp.1], by rw [if_neg b0, if_pos rfl, ald_nI (by omega) (by decide), hm.1]⟩
    by_cases b2 : b = 2
    · subst b2
      exact ⟨_, by rw [if_neg b0, if_neg b1, if_pos rfl, ckK_eq (pl_kd h), ald_nI (by omega) (by decide), hp.2.2], by rw [if_neg b0, if_neg b1, if_pos rfl, cordsOf_ok h (by omega), bnd_s]⟩
    by_cases b3 : b = 3
    · subst b3
      exact ⟨_, by rw [if_neg b0, if_neg b1, if_neg b2, if_pos rfl, ckK_eq (pl_kd h), ald_nI (by omega) (by decide), hp.2.1], by rw [if_neg b0, if_neg b1, if_neg b2, if_pos rfl, ald_nI (by omega) (by decide), hm.2]⟩
    exact ⟨-1, by rw [if_neg b0, if_neg b1, if_neg b2, if_neg b3], by rw [if_neg b0, if_neg b1, if_neg b2, if_neg b3]⟩
  · rw [hasLamp_out h ho, isLamp_out h ho]
    exact ⟨-1, rfl, rfl⟩
theorem B_cord (a b : Int32) : Both (f_C_cord a b) (f_Mo_cord a b) := by
  refine Both.pure fun D M h => ?_
  unfold f_C_cord f_Mo_cord
  rw [ckK_eq (pl_kd h)]
  rcases in_cases a (D 0 1) (by have := nct h; omega) with ⟨j, hj, rfl⟩ | ho
  · have hnc := h.1.2.1
    rw [hasCord_in h hj, isCord_in h hj, bnd_s, bnd_s, if_neg (by decide), if_neg (by decide)]
    have hp := h.2.2.2.1.2.2.1 j hj
    have hm := h.2.2.2.2.2.1.2.2.1 j hj
    simp only [swi]
    by_cases b0 : b = 0
    · subst b0
      exact ⟨_, by rw [if_pos rfl, ckK_eq (pl_kd h), ald_nI (by omega) (by decide), hp.1], by rw [if_pos rfl, ald_nI (by omega) (by decide), hm.1]⟩
    by_cases b1 : b = 1
    · subst b1
      exact ⟨_, by rw [if_neg b0, if_pos rfl, ckK_eq (pl_kd h), ald_nI (by omega) (by decide), hp.2], by rw [if_neg b0, if_pos rfl, ald_nI (by omega) (by decide), hm.2]⟩
    by_cases b2 : b = 2
    · subst b2
      exact ⟨_, by rw [if_neg b0, if_neg b1, if_pos rfl, cur_ok h, bnd_s, cst h (by decide)], by rw [if_neg b0, if_neg b1, if_pos rfl, now_ald h 1 1 rfl (by decide)]⟩
    exact ⟨-1, by rw [if_neg b0, if_neg b1, if_neg b2], by rw [if_neg b0, if_neg b1, if_neg b2]⟩
  · rw [hasCord_out h ho, isCord_out h ho]
    exact ⟨-1, rfl, rfl⟩
theorem B_picture : Both f_C_picture f_Mo_picture := by
  refine Both.pure fun D M h => ⟨nI (D (10 + D 7 0) 0), ?_, ?_⟩
  · unfold f_C_picture
    rw [cur_ok h, bnd_s, cst h (by decide)]
  · unfold f_Mo_picture
    rw [now_ald h 0 0 rfl (by decide)]
theorem B_burning : Both f_C_burning f_Mo_burning := by
  refine Both.pure fun D M h => ⟨nI (pc (D (10 + D 7 0) 0)), ?_, ?_⟩
  · unfold f_C_burning
    rw [cur_ok h, bnd_s, cst h (by decide), bc_ok h.pic', bnd_s]
  · unfold f_Mo_burning
    rw [now_ald h 0 0 rfl (by decide), members_ok (by have := h.pic'; omega), bnd_s]
theorem B_load : Both f_C_load f_Mo_load := by
  refine Both.pure fun D M h => ⟨nI (ws (D 1) (D (10 + D 7 0) 0) (D 0 0)), ?_, ?_⟩
  · unfold f_C_load
    rw [ckK_eq (pl_kd h), cur_ok h, bnd_s, cst h (by decide), Plan_wattsOf_ok h (by have := h.pic'; omega), bnd_s]
  · unfold f_Mo_load
    rw [now_ald h 0 0 rfl (by decide), Mo_wattsOf_ok h (by have := h.pic'; omega), bnd_s]
theorem B_fault (a : Int32) : Both (f_C_fault a) (f_Mo_fault a) := by
  refine Both.pure fun D M h => ⟨if a = 0 then gI M 0 13 else if a = 1 then gI M 0 14 else -1, ?_, ?_⟩
  · unfold f_C_fault
    rw [either_eq, bnd_s]
  · unfold f_Mo_fault
    have ht := h.2.2.2.2.2.2.2.2.2.1
    rw [ht.2.2.2.1, ht.2.2.2.2]
    by_cases h0 : a = 0
    · rw [if_pos h0, if_pos h0]
    · rw [if_neg h0, if_neg h0]
      by_cases h1 : a = 1
      · rw [if_pos h1, if_pos h1]
      · rw [if_neg h1, if_neg h1]
theorem B_lies (a : Int32) : Both (f_C_lies a) (f_Mo_lies a) := by
  refine Both.pure fun D M h => ?_
  obtain ⟨l1, l2, l3⟩ := h.2.2.2.2.2.2.2.2.2.2.2
  have hb := h.2.1.2.2.2.2.2.2.2.1
  unfold f_C_lies f_Mo_lies f_C_lies_j15
  rw [l1, l2]
  rcases in_cases a (D 9 3) (by omega) with ⟨j, hj, rfl⟩ | ho
  · refine ⟨gI M 98 j, ?_, ?_⟩
    · rw [if_neg (nI_pos (by omega)), if_pos (nI_lt hj (by omega)), ald_nI (by omega) (by decide)]
    · rw [isIn_in hj (by omega), bnd_s, if_neg (by decide), ald_nI (by omega) (by decide), l3 j hj]
  · refine ⟨-1, ?_, ?_⟩
    · by_cases h0 : a < 0
      · rw [if_pos h0]
      · rw [if_neg h0, if_neg]
        have h1 := ho.resolve_left h0
        rw [Int32.le_iff_toInt_le] at h1
        rw [Int32.lt_iff_toInt_lt]; omega
    · rw [isIn_out ho (by omega), bnd_s, if_pos rfl]
theorem ite_ex {α : Type} {c : Prop} [Decidable c] {A B : Option (α × AM)} {M : AM} (hA : ∃ r, A = some (r, M)) (hB : ∃ r, B = some (r, M)) : ∃ r, (if c then A else B) = some (r, M) := by
  split
  · exact hA
  · exact hB
theorem B_about (a : Int32) : Both (f_C_about a) (f_Mo_about a) := by
  refine Both.pure fun D M h => ?_
  unfold f_C_about f_Mo_about
  rw [cur_ok h, bnd_s]
  simp only [ckK_eq (pl_kd h), swi]
  obtain ⟨⟨p1, p2, p3, p4, p5, p6, p7⟩, -⟩ := h.2.2.2.1
  obtain ⟨⟨m1, m2, m3, m4, m5, m6, m7, m8⟩, -⟩ := h.2.2.2.2.2.1
  obtain ⟨c1, c2, -⟩ := h.2.2.2.2.2.2.1
  obtain ⟨n1, n2, -⟩ := h.2.2.2.2.2.2.2.1
  obtain ⟨t1, t2, -⟩ := h.2.2.2.2.2.2.2.2.2.1
  obtain ⟨s1, s2, s3, s4, -⟩ := h.2.2.2.2.2.2.2.2.2.2.1
  obtain ⟨l1, l2, -⟩ := h.2.2.2.2.2.2.2.2.2.2.2
  have hd := h.2.1.1
  rw [p1, p3, p4, p5, p6, m1, m3, m4, m5, m6, c1, c2, n1, n2, t1, t2, s1, s2, s3, s4, l1, l2, cst h (i := 1) (by decide), cst h (i := 2) (by decide), cst h (i := 3) (by decide), cst h (i := 4) (by decide), pk_sub hd]
  rw [now_ald h 1 1 rfl (by decide), now_ald h 2 2 rfl (by decide), now_ald h 3 3 rfl (by decide), now_ald h 4 4 rfl (by decide)]
  refine Exists.imp (p := fun r => _ = some (r, M)) (fun r hr => ⟨hr, hr⟩) ?_
  repeat' (first | refine ite_ex ?_ ?_ | exact ⟨_, rfl⟩)
/-- a set of numbers below n, as bits -/
def msk (P : Nat → Bool) : Nat → Nat
  | 0 => 0
  | n + 1 => msk P n ||| (if P n then 2 ^ n else 0)
theorem msk_tb (P : Nat → Bool) : ∀ n i, (msk P n).testBit i = (decide (i < n) && P i) := by
  intro n
  induction n with
  | zero => intro i; simp [msk]
  | succ n ih =>
    intro i
    unfold msk
    rw [Nat.testBit_or, ih]
    by_cases hP : P n = true
    · rw [if_pos hP, Nat.testBit_two_pow]
      by_cases hi : i = n
      · subst hi; simp [hP]
      · have e1 : decide (n = i) = false := by simpa using fun e => hi e.symm
        have e2 : decide (i < n) = decide (i < n + 1) := by apply decide_eq_decide.mpr; omega
        rw [e1, e2]; simp
    · rw [if_neg hP, Nat.zero_testBit]
      by_cases hi : i = n
      · subst hi; simp at hP; simp [hP]
      · have e2 : decide (i < n) = decide (i < n + 1) := by apply decide_eq_decide.mpr; omega
        rw [e2]; simp
theorem msk_lt (P : Nat → Bool) (n : Nat) : msk P n < 2 ^ n := by
  refine Nat.lt_pow_two_of_testBit _ fun i hi => ?_
  rw [msk_tb]
  simp; omega
theorem msk_congr {P Q : Nat → Bool} {n : Nat} (h : ∀ i, i < n → P i = Q i) : msk P n = msk Q n := by
  refine Nat.eq_of_testBit_eq fun i => ?_
  rw [msk_tb, msk_tb]
  by_cases hi : i < n
  · rw [h i hi]
  · simp [hi]
theorem msk_step {P : Nat → Bool} {n : Nat} (hn : n < 31) : nI (msk P n) ||| nI (if P n then 1 else 0) <<< (nI n &&& 31) = nI (msk P (n + 1)) := by
  rw [nx_sh1 (by split <;> omega) hn, nx_or]
  show _ = nI (msk P n ||| (if P n = true then 2 ^ n else 0))
  congr 2
  split <;> simp
section O1
variable {D : DT} {M : AM}
theorem lampsTurnedBy_ok (h : Rel D M) {t : Nat} (ht : t < 2 ^ 31) : f_C_lampsTurnedBy (nI t) M = some (nI (msk (fun l => decide (tbf (D 3) l (D 0 1) &&& frN (D 0 1) (D (10 + D 7 0) 1) = t)) (D 0 0)), M) := by
  unfold f_C_lampsTurnedBy
  rw [C_free_ok h, bnd_s]
  have hnl := h.1.1
  have hfr := h.fr'
  generalize hF : frN (D 0 1) (D (10 + D 7 0) 1) = F at hfr ⊢
  generalize hP : (fun l => decide (tbf (D 3) l (D 0 1) &&& F = t)) = P
  have key : f_C_lampsTurnedBy_l10 (nI t) (nI F) fu 0 0 M = some (nI (msk P (D 0 0)), M) := for_up (fun z (s : Int32 × Int32 × AM) => f_C_lampsTurnedBy_l10 (nI t) (nI F) z s.1 s.2.1 s.2.2) (fun k => (nI (msk P k), nI k, M)) (D 0 0) _
    (fun k z hk => by
      show f_C_lampsTurnedBy_b10 (f_C_lampsTurnedBy_l10 (nI t) (nI F) z) (nI t) (nI F) (nI (msk P k)) (nI k) M = f_C_lampsTurnedBy_l10 (nI t) (nI F) z (nI (msk P (k + 1))) (nI (k + 1)) M
      unfold f_C_lampsTurnedBy_b10
      have hand : tbf (D 3) k (D 0 1) &&& F ≤ F := Nat.and_le_right
      rw [ckK_eq (pl_kd h), h.2.2.2.1.1.1, if_neg (nI_ge hk (by omega)), ckK_eq (pl_kd h), ald_nI (by omega) (by decide), (h.2.2.2.1.2.1 k hk).2.2, nx_and, nx_one k (by omega), nx_or, nI_1]
      by_cases hb : tbf (D 3) k (D 0 1) &&& F = t
      · rw [if_pos (by rw [hb])]
        have : P k = true := by rw [← hP]; simpa using hb
        show _ = f_C_lampsTurnedBy_l10 (nI t) (nI F) z (nI (msk P k ||| (if P k = true then 2 ^ k else 0))) (nI (k + 1)) M
        rw [if_pos this]
      · rw [if_neg (fun e => hb ((nI_eq (by omega) ht).mp e))]
        have : ¬ P k = true := by rw [← hP]; simpa using hb
        show _ = f_C_lampsTurnedBy_l10 (nI t) (nI F) z (nI (msk P k ||| (if P k = true then 2 ^ k else 0))) (nI (k + 1)) M
        rw [if_neg this, Nat.or_zero])
    (fun z => by
      show f_C_lampsTurnedBy_b10 (f_C_lampsTurnedBy_l10 (nI t) (nI F) z) (nI t) (nI F) (nI (msk P (D 0 0))) (nI (D 0 0)) M = _
      unfold f_C_lampsTurnedBy_b10
      rw [ckK_eq (pl_kd h), h.2.2.2.1.1.1, if_pos (nI_le (Nat.le_refl _) (by omega))]) (D 0 0) 0 fu (by omega) (by rw [fu_eq]; omega)
  rw [bnd_eq key]
theorem Mo_alone_ok (h : Rel D M) : f_Mo_alone M = some (nI (msk (fun l => decide (tbf (D 3) l (D 0 1) &&& frN (D 0 1) (D (10 + D 7 0) 1) = 0)) (D 0 0)), M) := by
  unfold f_Mo_alone
  have hnl := h.1.1
  have hfr := h.fr'
  generalize hP : (fun l => decide (tbf (D 3) l (D 0 1) &&& frN (D 0 1) (D (10 + D 7 0) 1) = 0)) = P
  have key : f_Mo_alone_l4 fu 0 0 M = some (nI (msk P (D 0 0)), M) := for_up (fun z (s : Int32 × Int32 × AM) => f_Mo_alone_l4 z s.1 s.2.1 s.2.2) (fun k => (nI (msk P k), nI k, M)) (D 0 0) _
    (fun k z hk => by
      show f_Mo_alone_b4 (f_Mo_alone_l4 z) (nI (msk P k)) (nI k) M = f_Mo_alone_l4 z (nI (msk P (k + 1))) (nI (k + 1)) M
      unfold f_Mo_alone_b4 f_Mo_alone_j31
      have hand : tbf (D 3) k (D 0 1) &&& frN (D 0 1) (D (10 + D 7 0) 1) ≤ frN (D 0 1) (D (10 + D 7 0) 1) := Nat.and_le_right
      rw [h.2.2.2.2.2.1.1.1, if_neg (nI_ge hk (by omega)), cordsOf_ok h (by omega), bnd_s, Mo_free_ok h, bnd_s, nx_and, truth_1, truth_0, bnd_s, bnd_s, nI_1]
      by_cases hb : tbf (D 3) k (D 0 1) &&& frN (D 0 1) (D (10 + D 7 0) 1) = 0
      · rw [if_pos (by rw [hb]; rfl)]
        have : P k = true := by rw [← hP]; simpa using hb
        rw [← msk_step (by omega), if_pos this]; rfl
      · rw [if_neg (fun e => hb ((nI_eq (by omega) (by decide)).mp (e.trans nI_0.symm)))]
        have : ¬ P k = true := by rw [← hP]; simpa using hb
        rw [← msk_step (by omega), if_neg this]; rfl)
    (fun z => by
      show f_Mo_alone_b4 (f_Mo_alone_l4 z) (nI (msk P (D 0 0))) (nI (D 0 0)) M = _
      unfold f_Mo_alone_b4
      rw [h.2.2.2.2.2.1.1.1, if_pos (nI_le (Nat.le_refl _) (by omega))]) (D 0 0) 0 fu (by omega) (by rw [fu_eq]; omega)
  rw [bnd_eq key]
theorem Mo_alike_ok (h : Rel D M) {j : Nat} (hj : j < D 0 0) : f_Mo_alike_l14 (nI j) fu 0 0 M = some (nI (msk (fun l => decide (l ≠ j ∧ tbf (D 3) l (D 0 1) &&& frN (D 0 1) (D (10 + D 7 0) 1) = tbf (D 3) j (D 0 1) &&& frN (D 0 1) (D (10 + D 7 0) 1))) (D 0 0)), M) := by
  have hnl := h.1.1
  have hfr := h.fr'
  generalize hP : (fun l => decide (l ≠ j ∧ tbf (D 3) l (D 0 1) &&& frN (D 0 1) (D (10 + D 7 0) 1) = tbf (D 3) j (D 0 1) &&& frN (D 0 1) (D (10 + D 7 0) 1))) = P
  exact for_up (fun z (s : Int32 × Int32 × AM) => f_Mo_alike_l14 (nI j) z s.1 s.2.1 s.2.2) (fun k => (nI (msk P k), nI k, M)) (D 0 0) _
    (fun k z hk => by
      show f_Mo_alike_b14 (f_Mo_alike_l14 (nI j) z) (nI j) (nI (msk P k)) (nI k) M = f_Mo_alike_l14 (nI j) z (nI (msk P (k + 1))) (nI (k + 1)) M
      unfold f_Mo_alike_b14 f_Mo_alike_j55 f_Mo_alike_j56
      have hand : tbf (D 3) k (D 0 1) &&& frN (D 0 1) (D (10 + D 7 0) 1) ≤ frN (D 0 1) (D (10 + D 7 0) 1) := Nat.and_le_right
      have hand2 : tbf (D 3) j (D 0 1) &&& frN (D 0 1) (D (10 + D 7 0) 1) ≤ frN (D 0 1) (D (10 + D 7 0) 1) := Nat.and_le_right
      rw [h.2.2.2.2.2.1.1.1, if_neg (nI_ge hk (by omega)), cordsOf_ok h (by omega), bnd_s, Mo_free_ok h, bnd_s, cordsOf_ok h (by omega), bnd_s, Mo_free_ok h, bnd_s, nx_and, nx_and, truth_1, truth_0, bnd_s, bnd_s, nI_1]
      by_cases hkj : k = j
      · rw [if_pos (by rw [hkj])]
        have : ¬ P k = true := by rw [← hP]; simp [hkj]
        rw [← msk_step (by omega), if_neg this]; rfl
      · rw [if_neg (fun e => hkj ((nI_eq (by omega) (by omega)).mp e))]
        by_cases hb : tbf (D 3) k (D 0 1) &&& frN (D 0 1) (D (10 + D 7 0) 1) = tbf (D 3) j (D 0 1) &&& frN (D 0 1) (D (10 + D 7 0) 1)
        · rw [if_pos (by rw [hb])]
          have : P k = true := by rw [← hP]; simpa using ⟨hkj, hb⟩
          rw [← msk_step (by omega), if_pos this]; rfl
        · rw [if_neg (fun e => hb ((nI_eq (by omega) (by omega)).mp e))]
          have : ¬ P k = true := by rw [← hP]; simp [hb]
          rw [← msk_step (by omega), if_neg this]; rfl)
    (fun z => by
      show f_Mo_alike_b14 (f_Mo_alike_l14 (nI j) z) (nI j) (nI (msk P (D 0 0))) (nI (D 0 0)) M = _
      unfold f_Mo_alike_b14
      rw [h.2.2.2.2.2.1.1.1, if_pos (nI_le (Nat.le_refl _) (by omega))]) (D 0 0) 0 fu (by omega) (by rw [fu_eq]; omega)
end O1
theorem B_alone : Both f_C_alone f_Mo_alone := by
  refine Both.pure fun D M h => ⟨_, ?_, Mo_alone_ok h⟩
  unfold f_C_alone
  rw [nI_lit 0, lampsTurnedBy_ok h (by decide), bnd_s]
theorem clr_I : ∀ j, j < 8 → ∀ m, m < 256 → nI m &&& (((1 : Int32) <<< (nI j &&& 31)) ^^^ (-1)) = nI (m &&& (255 ^^^ 2 ^ j)) := by decide +kernel
theorem clr_tb : ∀ j, j < 8 → ∀ i, i < 8 → (255 ^^^ 2 ^ j).testBit i = decide (i ≠ j) := by decide +kernel
theorem B_alike (a : Int32) : Both (f_C_alike a) (f_Mo_alike a) := by
  refine Both.pure fun D M h => ?_
  unfold f_C_alike f_Mo_alike
  rw [ckK_eq (pl_kd h)]
  rcases in_cases a (D 0 0) (by have := nlt h; omega) with ⟨j, hj, rfl⟩ | ho
  · have hnl := h.1.1
    refine ⟨_, ?_, by rw [isLamp_in h hj, bnd_s, if_neg (by decide), Mo_alike_ok h hj, bnd_s]⟩
    have hand : tbf (D 3) j (D 0 1) &&& frN (D 0 1) (D (10 + D 7 0) 1) ≤ frN (D 0 1) (D (10 + D 7 0) 1) := Nat.and_le_right
    have hfr := h.fr'
    rw [hasLamp_in h hj, bnd_s, if_neg (by decide), ckK_eq (pl_kd h), ald_nI (by omega) (by decide), (h.2.2.2.1.2.1 j hj).2.2, C_free_ok h, bnd_s, nx_and, lampsTurnedBy_ok h (by omega), bnd_s, clr_I j (by omega) _ (Nat.lt_of_lt_of_le (msk_lt _ _) (p2_le hnl))]
    congr 3
    refine Nat.eq_of_testBit_eq fun i => ?_
    rw [Nat.testBit_and, msk_tb, msk_tb]
    by_cases hi : i < D 0 0
    · rw [clr_tb j (by omega) i (by omega)]
      simp only [hi, decide_true, Bool.true_and]
      by_cases h1 : i = j <;> simp [h1]
    · simp [hi]
  · rw [hasLamp_out h ho, isLamp_out h ho]
    exact ⟨-1, rfl, rfl⟩

/-- odd, law -/
theorem C_odd_ok {D : DT} {M : AM} (h : Rel D M) : f_C_odd M = some (nI (msk (fun c => !(D (10 + D 7 0) 1).testBit c && decide (pc (D 3 c) % 2 = 1)) (D 0 1)), M) := by
  unfold f_C_odd
  rw [C_free_ok h, bnd_s]
  have hnc := h.1.2.1
  have hfr := h.fr'
  have htb : ∀ c, c < D 0 1 → (frN (D 0 1) (D (10 + D 7 0) 1)).testBit c = !(D (10 + D 7 0) 1).testBit c := fun c hc => by
    rw [fr_tb _ (by omega) _ h.tied' h.tied c (by omega)]; simp [hc]
  generalize frN (D 0 1) (D (10 + D 7 0) 1) = F at hfr htb ⊢
  generalize hP : (fun c => !(D (10 + D 7 0) 1).testBit c && decide (pc (D 3 c) % 2 = 1)) = P
  have key : f_C_odd_l9 (nI F) fu 0 0 M = some (nI (msk P (D 0 1)), M) := for_up (fun z (s : Int32 × Int32 × AM) => f_C_odd_l9 (nI F) z s.1 s.2.1 s.2.2) (fun k => (nI (msk P k), nI k, M)) (D 0 1) _
    (fun k z hk => by
      show f_C_odd_b9 (f_C_odd_l9 (nI F) z) (nI F) (nI (msk P k)) (nI k) M = f_C_odd_l9 (nI F) z (nI (msk P (k + 1))) (nI (k + 1)) M
      unfold f_C_odd_b9
      have ht := (h.1.2.2.2.2.2.2.2.1 k hk).1
      have := p2_le h.1.1
      have hp8 := pc_le (D 3 k)
      rw [ckK_eq (pl_kd h), h.2.2.2.1.1.2.2.1, if_neg (nI_ge hk (by omega)), nx_bit (by omega) (by omega), tb_mod, htb k hk, ckK_eq (pl_kd h), ald_nI (by omega) (by decide), (h.2.2.2.1.2.2.1 k hk).1, bc_ok (by omega), bnd_s, nI_1, nx_one k (by omega), nx_or]
      show _ = f_C_odd_l9 (nI F) z (nI (msk P k ||| (if P k = true then 2 ^ k else 0))) (nI (k + 1)) M
      have hmod : ∀ n, n < 9 → (nI n % 2 = 1 ↔ n % 2 = 1) := by decide +kernel
      rw [← hP]
      by_cases hb : (D (10 + D 7 0) 1).testBit k = true
      · simp [hb, nI_0]
      · simp only [hb, Bool.not_false, if_true, Bool.true_and]
        rw [if_neg (by decide)]
        by_cases ho : pc (D 3 k) % 2 = 1
        · rw [if_pos ((hmod _ (by omega)).mpr ho)]; simp [ho, hb]
        · rw [if_neg (fun e => ho ((hmod _ (by omega)).mp e))]; simp [ho, hb])
    (fun z => by
      show f_C_odd_b9 (f_C_odd_l9 (nI F) z) (nI F) (nI (msk P (D 0 1))) (nI (D 0 1)) M = _
      unfold f_C_odd_b9
      rw [ckK_eq (pl_kd h), h.2.2.2.1.1.2.2.1, if_pos (nI_le (Nat.le_refl _) (by omega))]) (D 0 1) 0 fu (by omega) (by rw [fu_eq]; omega)
  rw [bnd_eq key]
theorem Mo_odd_ok {D : DT} {M : AM} (h : Rel D M) : f_Mo_odd M = some (nI (msk (fun c => !(D (10 + D 7 0) 1).testBit c && decide (pc (D 3 c) % 2 = 1)) (D 0 1)), M) := by
  unfold f_Mo_odd
  have hnc := h.1.2.1
  generalize hP : (fun c => !(D (10 + D 7 0) 1).testBit c && decide (pc (D 3 c) % 2 = 1)) = P
  have key : f_Mo_odd_l4 fu 0 0 M = some (nI (msk P (D 0 1)), M) := for_up (fun z (s : Int32 × Int32 × AM) => f_Mo_odd_l4 z s.1 s.2.1 s.2.2) (fun k => (nI (msk P k), nI k, M)) (D 0 1) _
    (fun k z hk => by
      show f_Mo_odd_b4 (f_Mo_odd_l4 z) (nI (msk P k)) (nI k) M = f_Mo_odd_l4 z (nI (msk P (k + 1))) (nI (k + 1)) M
      unfold f_Mo_odd_b4 f_Mo_odd_j40 f_Mo_odd_j41
      have ht := (h.1.2.2.2.2.2.2.2.1 k hk).1
      have := p2_le h.1.1
      have hp8 := pc_le (D 3 k)
      rw [h.2.2.2.2.2.1.1.2.2.1, if_neg (nI_ge hk (by omega)), isTied_ok h (by omega), bnd_s, ald_nI (by omega) (by decide), (h.2.2.2.2.2.1.2.2.1 k hk).1, members_ok (by omega), bnd_s, truth_1, truth_0, bnd_s, bnd_s, nI_1]
      have hmod : ∀ n, n < 9 → (nI n % 2 = 1 ↔ n % 2 = 1) := by decide +kernel
      rw [← msk_step (P := P) (by omega), ← hP]
      by_cases hb : (D (10 + D 7 0) 1).testBit k = true
      · simp only [hb, if_true, Bool.not_true, Bool.false_and]
        rw [if_neg (by decide)]; rfl
      · simp only [hb, Bool.not_false, Bool.true_and]
        rw [if_pos (by decide)]
        by_cases ho : pc (D 3 k) % 2 = 1
        · rw [if_pos ((hmod _ (by omega)).mpr ho)]; simp only [ho, decide_true, if_true]; rfl
        · rw [if_neg (fun e => ho ((hmod _ (by omega)).mp e))]; simp only [ho, decide_false]; rfl)
    (fun z => by
      show f_Mo_odd_b4 (f_Mo_odd_l4 z) (nI (msk P (D 0 1))) (nI (D 0 1)) M = _
      unfold f_Mo_odd_b4
      rw [h.2.2.2.2.2.1.1.2.2.1, if_pos (nI_le (Nat.le_refl _) (by omega))]) (D 0 1) 0 fu (by omega) (by rw [fu_eq]; omega)
  rw [bnd_eq key]
theorem B_odd : Both f_C_odd f_Mo_odd := Both.pure fun D M h => ⟨_, C_odd_ok h, Mo_odd_ok h⟩
def lwf (D : DT) (j : Nat) : Nat → Nat
  | 0 => D (10 + D 7 0) 0
  | k + 1 => if (D (10 + D 7 0) 1).testBit k then lwf D j k else if j < D 4 k then lwf D j k else lwf D j k ^^^ D 3 k
theorem lwf_lt {D : DT} {M : AM} (h : Rel D M) (j : Nat) : ∀ k, k ≤ D 0 1 → lwf D j k < 2 ^ D 0 0 := by
  intro k
  induction k with
  | zero => intro _; exact h.pic
  | succ k ih =>
    intro hk
    unfold lwf
    split
    · exact ih (by omega)
    · split
      · exact ih (by omega)
      · exact Nat.xor_lt_two_pow (ih (by omega)) (h.1.2.2.2.2.2.2.2.1 k (by omega)).1
theorem C_law_l {D : DT} {M : AM} (h : Rel D M) {j : Nat} (hj : j ≤ 20) : f_C_law_l31 (nI j) (nI (frN (D 0 1) (D (10 + D 7 0) 1))) fu (nI (D (10 + D 7 0) 0)) 0 M = some (nI (lwf D j (D 0 1)), M) := by
  have hnc := h.1.2.1
  have hfr := h.fr'
  have htb : ∀ c, c < D 0 1 → (frN (D 0 1) (D (10 + D 7 0) 1)).testBit c = !(D (10 + D 7 0) 1).testBit c := fun c hc => by
    rw [fr_tb _ (by omega) _ h.tied' h.tied c (by omega)]; simp [hc]
  generalize frN (D 0 1) (D (10 + D 7 0) 1) = F at hfr htb ⊢
  exact for_up (fun z (s : Int32 × Int32 × AM) => f_C_law_l31 (nI j) (nI F) z s.1 s.2.1 s.2.2) (fun k => (nI (lwf D j k), nI k, M)) (D 0 1) _
    (fun k z hk => by
      show f_C_law_b31 (f_C_law_l31 (nI j) (nI F) z) (nI j) (nI F) (nI (lwf D j k)) (nI k) M = f_C_law_l31 (nI j) (nI F) z (nI (lwf D j (k + 1))) (nI (k + 1)) M
      unfold f_C_law_b31
      have hco := (h.1.2.2.2.2.2.2.2.1 k hk).2
      rw [ckK_eq (pl_kd h), h.2.2.2.1.1.2.2.1, if_neg (nI_ge hk (by omega)), nx_bit (by omega) (by omega), tb_mod, htb k hk, ckK_eq (pl_kd h), ald_nI (by omega) (by decide), (h.2.2.2.1.2.2.1 k hk).2, ckK_eq (pl_kd h), ald_nI (by omega) (by decide), (h.2.2.2.1.2.2.1 k hk).1, nx_xor, nI_1, lwf]
      by_cases hb : (D (10 + D 7 0) 1).testBit k = true
      · simp only [hb, Bool.not_true, if_true]
        rw [if_pos (by decide)]
      · simp only [hb, Bool.not_false, if_true]
        rw [if_neg (by decide)]
        by_cases hc : j < D 4 k
        · rw [if_pos (nI_lt hc (by omega))]; simp [hc]
        · rw [if_neg (nI_nlt (by omega) (by omega))]; simp [hc])
    (fun z => by
      show f_C_law_b31 (f_C_law_l31 (nI j) (nI F) z) (nI j) (nI F) (nI (lwf D j (D 0 1))) (nI (D 0 1)) M = _
      unfold f_C_law_b31
      rw [ckK_eq (pl_kd h), h.2.2.2.1.1.2.2.1, if_pos (nI_le (Nat.le_refl _) (by omega))]) (D 0 1) 0 fu (by omega) (by rw [fu_eq]; omega)
theorem Mo_law_l {D : DT} {M : AM} (h : Rel D M) {j : Nat} (hj : j ≤ 20) : f_Mo_law_l21 (nI j) fu (nI (D (10 + D 7 0) 0)) 0 M = some (nI (lwf D j (D 0 1)), M) := by
  have hnc := h.1.2.1
  exact for_up (fun z (s : Int32 × Int32 × AM) => f_Mo_law_l21 (nI j) z s.1 s.2.1 s.2.2) (fun k => (nI (lwf D j k), nI k, M)) (D 0 1) _
    (fun k z hk => by
      show f_Mo_law_b21 (f_Mo_law_l21 (nI j) z) (nI j) (nI (lwf D j k)) (nI k) M = f_Mo_law_l21 (nI j) z (nI (lwf D j (k + 1))) (nI (k + 1)) M
      unfold f_Mo_law_b21 f_Mo_law_j57
      have hco := (h.1.2.2.2.2.2.2.2.1 k hk).2
      rw [h.2.2.2.2.2.1.1.2.2.1, if_neg (nI_ge hk (by omega)), isTied_ok h (by omega), bnd_s, ald_nI (by omega) (by decide), (h.2.2.2.2.2.1.2.2.1 k hk).2, ald_nI (by omega) (by decide), (h.2.2.2.2.2.1.2.2.1 k hk).1, nx_xor, nI_1, nI_lit 0, nx_xor, Nat.xor_zero, lwf]
      by_cases hb : (D (10 + D 7 0) 1).testBit k = true
      · simp only [hb, if_true]
        rw [if_neg (by decide)]
      · simp only [hb]
        rw [if_pos (by decide)]
        by_cases hc : j < D 4 k
        · rw [if_pos (nI_lt hc (by omega))]; simp [hc]
        · rw [if_neg (nI_nlt (by omega) (by omega))]; simp [hc])
    (fun z => by
      show f_Mo_law_b21 (f_Mo_law_l21 (nI j) z) (nI j) (nI (lwf D j (D 0 1))) (nI (D 0 1)) M = _
      unfold f_Mo_law_b21
      rw [h.2.2.2.2.2.1.1.2.2.1, if_pos (nI_le (Nat.le_refl _) (by omega))]) (D 0 1) 0 fu (by omega) (by rw [fu_eq]; omega)
theorem B_law (a : Int32) : Both (f_C_law a) (f_Mo_law a) := by
  refine Both.pure fun D M h => ?_
  have hlt := Nat.lt_of_lt_of_le (lwf_lt h 0 0 (Nat.zero_le _)) (p2_le h.1.1)
  rcases in_cases a 21 (by decide) with ⟨j, hj, rfl⟩ | ho
  · have hl := Nat.lt_of_lt_of_le (lwf_lt h j _ (Nat.le_refl _)) (p2_le h.1.1)
    refine ⟨nI (pc (lwf D j (D 0 1))), ?_, ?_⟩
    · unfold f_C_law
      rw [if_neg (nI_pos (by omega)), nI_lit 20, if_pos (nI_le (by omega) (by decide)), C_free_ok h, bnd_s, cur_ok h, bnd_s, cst h (by decide), C_law_l h (by omega), bnd_s, bc_ok hl, bnd_s]
    · unfold f_Mo_law
      have e : (20 : Int32) = nI 21 - 1 := by decide
      rw [e, isIn_in hj (by decide), bnd_s, if_neg (by decide), now_ald h 0 0 rfl (by decide), Mo_law_l h (by omega), bnd_s, members_ok (by omega), bnd_s]
  · refine ⟨-1, ?_, ?_⟩
    · unfold f_C_law
      by_cases h0 : a < 0
      · rw [if_pos h0]
      · rw [if_neg h0, if_neg]
        have h1 := ho.resolve_left h0
        rw [Int32.le_iff_toInt_le] at h1 ⊢
        have e1 : (nI 21).toInt = 21 := by decide
        have e2 : (20 : Int32).toInt = 20 := by decide
        omega
    · unfold f_Mo_law
      have e : (20 : Int32) = nI 21 - 1 := by decide
      rw [e, isIn_out ho (by decide), bnd_s, if_pos rfl]
