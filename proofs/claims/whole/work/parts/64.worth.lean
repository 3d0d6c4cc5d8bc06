/-- a formula's steps are in order: n of them, at most 30 high -/
def okF (D : DT) (n : Nat) : Prop := n ≤ 269 ∧ hgt D n = some 1 ∧ ∀ i, i < n → okStep (D 5 i) (D 6 i) ∧ ∀ h, hgt D (i + 1) = some h → h ≤ 30
/-- what holds of a step: the heights before and behind it -/
theorem okF.step {D : DT} {n : Nat} (h : okF D n) (g : Nat → Int32) {k : Nat} (hk : k < n) : (evs D g (k + 1)).1 ≤ 30 ∧ (D 5 k ≤ 1 → (evs D g k).1 + 1 = (evs D g (k + 1)).1) ∧ (D 5 k = 2 → 1 ≤ (evs D g k).1) ∧ (D 5 k = 3 → 2 ≤ (evs D g k).1) := by
  obtain ⟨h1, hz1⟩ := hgt_all h.2.1 (k + 1) (by omega)
  obtain ⟨h0, hz0⟩ := hgt_all h.2.1 k (by omega)
  have e1 := hgt_ev (g := g) hz1
  have e0 := hgt_ev (g := g) hz0
  refine ⟨by rw [e1]; exact (h.2.2 k hk).2 h1 hz1, fun q => ?_, fun q => ?_, fun q => ?_⟩
  · rw [e0, e1]
    rw [hgt, hz0] at hz1
    simp only at hz1
    rw [if_pos q] at hz1
    exact Option.some.inj hz1
  · rw [e0]
    rw [hgt, hz0] at hz1
    simp only at hz1
    rw [if_neg (by omega), if_pos q] at hz1
    by_cases z : 1 ≤ h0
    · exact z
    · rw [if_neg z] at hz1; cases hz1
  · rw [e0]
    rw [hgt, hz0] at hz1
    simp only at hz1
    rw [if_neg (by omega), if_neg (by omega)] at hz1
    by_cases z : 2 ≤ h0
    · exact z
    · rw [if_neg z] at hz1; cases hz1
theorem ev_le {D : DT} {n : Nat} (h : okF D n) (g : Nat → Int32) {k : Nat} (hk : k ≤ n) : (evs D g k).1 ≤ 30 := by
  cases k with
  | zero => show 0 ≤ 30; omega
  | succ k => exact (h.step g (by omega)).1
theorem cs0 {v : Nat} : cstep 0 v = nI v := rfl
theorem cs1 : ∀ v, v ≤ 5 → ¬ 0 ≤ cstep 1 v ∧ ¬ (-140) < cstep 1 v ∧ cstep 1 v < 0 ∧ -(cstep 1 v) - 140 = nI v := by
  intro v hv
  have : ∀ v, v < 6 → ¬ 0 ≤ cstep 1 v ∧ ¬ (-140) < cstep 1 v ∧ cstep 1 v < 0 ∧ -(cstep 1 v) - 140 = nI v := by decide +kernel
  exact this v (by omega)
theorem Form_worth_ok {D : DT} {M : AM} {q n : Nat} {g : Nat → Int32} (hok : okF D n) (hn : gI M q 1 = nI n) (hst : ∀ i, i < n → gI M (q + 1) i = cstep (D 5 i) (D 6 i)) (hg : ∀ i, i < 6 → gI M (q + 3) i = g i) : ∃ M', f_Form_worth q M = some ((evs D g n).2 0, M') ∧ (∀ c k, c ≠ q + 2 → gI M' c k = gI M c k) ∧ ∀ c k, gR M' c k = gR M c k := by
  have hn269 := hok.1
  have key : ∃ o, f_Form_worth_l4 q fu 0 0 M = some o ∧ (o.1 = nI (evs D g n).1 ∧ (∀ j, j < (evs D g n).1 → gI o.2 (q + 2) j = (evs D g n).2 j) ∧ (∀ c k, c ≠ q + 2 → gI o.2 c k = gI M c k) ∧ ∀ c k, gR o.2 c k = gR M c k) := by
    refine for_inv (fun z (s : Int32 × Int32 × AM) => f_Form_worth_l4 q z s.1 s.2.1 s.2.2) (fun k s => s.1 = nI (evs D g k).1 ∧ s.2.1 = nI k ∧ (∀ j, j < (evs D g k).1 → gI s.2.2 (q + 2) j = (evs D g k).2 j) ∧ (∀ c k, c ≠ q + 2 → gI s.2.2 c k = gI M c k) ∧ ∀ c k, gR s.2.2 c k = gR M c k) n _ (fun k s z hk hI => ?_) (fun s z hI => ?_) n 0 (0, 0, M) fu (by omega) (by rw [fu_eq]; omega) ⟨rfl, rfl, fun j hj => absurd hj (Nat.not_lt_zero j), fun c k _ => rfl, fun c k => rfl⟩
    · obtain ⟨v1, v2, N⟩ := s
      obtain ⟨rfl, rfl, i3, i4, i5⟩ := hI
      simp only at i3 i4 i5
      left
      have hs := hok.step g hk
      have hle := ev_le hok g (k := k) (by omega)
      have hx := hst k hk
      have hb : ∀ R, f_Form_worth_b4 (f_Form_worth_l4 q z) q (nI (evs D g k).1) (nI k) N = R → f_Form_worth_l4 q (z + 1) (nI (evs D g k).1) (nI k) N = R := fun R hR => hR
      have g1 : gI N q 1 = nI n := by rw [i4 _ _ (by omega)]; exact hn
      have g2 : gI N (q + 1) k = cstep (D 5 k) (D 6 k) := by rw [i4 _ _ (by omega)]; exact hx
      rcases (hok.2.2 k hk).1 with ⟨k0, hv⟩ | ⟨k1, hv⟩ | ⟨k2, hv⟩ | ⟨k3, hv⟩
      · rw [k0, cs0] at g2
        have hh := hs.2.1 (by omega)
        refine ⟨(nI ((evs D g k).1 + 1), nI (k + 1), sI N (q + 2) (evs D g k).1 (nI (D 6 k))), ⟨by rw [evs_0 k0], rfl, fun j hj => ?_, fun c k hc => ?_, i5⟩, hb _ ?_⟩
        · rw [evs_0 k0] at hj ⊢
          simp only at hj ⊢
          rw [gI_sI]
          by_cases hje : j = (evs D g k).1
          · rw [if_pos ⟨rfl, hje⟩, if_pos hje]
          · rw [if_neg (by omega), if_neg hje]; exact i3 j (by omega)
        · rw [gI_sI, if_neg (by omega)]; exact i4 c k hc
        · unfold f_Form_worth_b4 f_Form_worth_j30 f_Form_worth_j58
          rw [g1, if_neg (nI_ge hk (by omega)), ald_nI (by omega) (by decide), g2, if_pos (show (0 : Int32) ≤ nI (D 6 k) from nI_le (a := 0) (by omega) (by omega)), if_neg (show ¬ (31 : Int32) ≤ nI (evs D g k).1 from nI_ge (b := 31) (by omega) (by decide)), if_neg (nI_pos (by omega)), ast_nI (by omega) (by decide), nI_1, nI_1]
      · rw [k1] at g2
        obtain ⟨c1, c2, c3, c4⟩ := cs1 (D 6 k) hv
        have hh := hs.2.1 (by omega)
        refine ⟨(nI ((evs D g k).1 + 1), nI (k + 1), sI N (q + 2) (evs D g k).1 (g (D 6 k))), ⟨by rw [evs_1 k1], rfl, fun j hj => ?_, fun c k hc => ?_, i5⟩, hb _ ?_⟩
        · rw [evs_1 k1] at hj ⊢
          simp only at hj ⊢
          rw [gI_sI]
          by_cases hje : j = (evs D g k).1
          · rw [if_pos ⟨rfl, hje⟩, if_pos hje]
          · rw [if_neg (by omega), if_neg hje]; exact i3 j (by omega)
        · rw [gI_sI, if_neg (by omega)]; exact i4 c k hc
        · unfold f_Form_worth_b4 f_Form_worth_j30 f_Form_worth_j58 f_Form_givenFor
          rw [g1, if_neg (nI_ge hk (by omega)), ald_nI (by omega) (by decide), g2, if_neg c1, if_neg c2, if_neg (show ¬ (31 : Int32) ≤ nI (evs D g k).1 from nI_ge (b := 31) (by omega) (by decide)), if_pos c3, c4, if_neg (nI_pos (by omega)), if_neg (show ¬ (6 : Int32) ≤ nI (D 6 k) from nI_ge (b := 6) (by omega) (by decide)), ald_nI (by omega) (by decide), bnd_s, i4 _ _ (by omega), hg _ (by omega), ast_nI (by omega) (by decide), nI_1, nI_1]
      · rw [k2, hv, show cstep 2 0 = -139 by decide] at g2
        have hh := hs.2.2.1 k2
        refine ⟨(nI (evs D g k).1, nI (k + 1), sI N (q + 2) ((evs D g k).1 - 1) (if (evs D g k).2 ((evs D g k).1 - 1) = 0 then 1 else 0)), ⟨by rw [evs_2 k2], rfl, fun j hj => ?_, fun c k hc => ?_, i5⟩, hb _ ?_⟩
        · rw [evs_2 k2] at hj ⊢
          simp only at hj ⊢
          rw [gI_sI]
          by_cases hje : j = (evs D g k).1 - 1
          · rw [if_pos ⟨rfl, hje⟩, if_pos hje]
          · rw [if_neg (by omega), if_neg hje]; exact i3 j hj
        · rw [gI_sI, if_neg (by omega)]; exact i4 c k hc
        · unfold f_Form_worth_b4 f_Form_worth_j99
          rw [g1, if_neg (nI_ge hk (by omega)), ald_nI (by omega) (by decide), g2, if_neg (by decide), if_pos (by decide), if_pos rfl, if_neg (show ¬ nI (evs D g k).1 ≤ 0 from nI_ge (a := 0) (by omega) (by omega)), nI_lit 1, pk_sub (by omega), ald_nI (by omega) (by decide), i3 _ (by omega), ast_nI (by omega) (by decide), ast_nI (by omega) (by decide), nI_add]
          split <;> rfl
      · rw [k3] at g2
        have hh := hs.2.2.2 k3
        obtain ⟨⟨c1, c2, c3⟩, hj⟩ := join_ok hv ((evs D g k).2 ((evs D g k).1 - 2)) ((evs D g k).2 ((evs D g k).1 - 1)) N
        refine ⟨(nI ((evs D g k).1 - 1), nI (k + 1), sI N (q + 2) ((evs D g k).1 - 2) (done2 (D 6 k) ((evs D g k).2 ((evs D g k).1 - 2)) ((evs D g k).2 ((evs D g k).1 - 1)))), ⟨by rw [evs_3 k3], rfl, fun j hj => ?_, fun c k hc => ?_, i5⟩, hb _ ?_⟩
        · rw [evs_3 k3] at hj ⊢
          simp only at hj ⊢
          rw [gI_sI]
          by_cases hje : j = (evs D g k).1 - 2
          · rw [if_pos ⟨rfl, hje⟩, if_pos hje]
          · rw [if_neg (by omega), if_neg hje]; exact i3 j (by omega)
        · rw [gI_sI, if_neg (by omega)]; exact i4 c k hc
        · have em : nI (evs D g k).1 + -1 = nI ((evs D g k).1 - 1) := by rw [← Int32.sub_eq_add_neg, nI_lit 1, pk_sub (by omega)]
          have em2 : nI ((evs D g k).1 - 1) - 1 = nI ((evs D g k).1 - 2) := by rw [nI_lit 1, pk_sub (by omega)]; rfl
          unfold f_Form_worth_b4
          rw [g1, if_neg (nI_ge hk (by omega)), ald_nI (by omega) (by decide), g2, if_neg c1, if_pos c2, if_neg c3, if_neg (show ¬ nI (evs D g k).1 ≤ 1 from nI_ge (a := 1) (by omega) (by omega)), em, em2, ald_nI (by omega) (by decide), ald_nI (by omega) (by decide), i3 _ (by omega), i3 _ (by omega), hj, bnd_s, ast_nI (by omega) (by decide), nI_1]
    · obtain ⟨v1, v2, N⟩ := s
      obtain ⟨rfl, rfl, i3, i4, i5⟩ := hI
      refine ⟨(nI (evs D g n).1, N), ?_, rfl, i3, i4, i5⟩
      show f_Form_worth_b4 (f_Form_worth_l4 q z) q (nI (evs D g n).1) (nI n) N = _
      unfold f_Form_worth_b4
      rw [show gI N q 1 = nI n by rw [i4 _ _ (by omega)]; exact hn, if_pos (nI_le (Nat.le_refl _) (by omega))]
  obtain ⟨⟨v, N⟩, k1, k2, k3, k4, k5⟩ := key
  simp only at k2 k3 k4 k5
  have h1 : (evs D g n).1 = 1 := hgt_ev hok.2.1
  refine ⟨N, ?_, k4, k5⟩
  unfold f_Form_worth
  rw [k1, bnd_s, k2, h1, if_neg (by decide), nI_lit 0, ald_nI (by decide) (by decide), k3 0 (by omega)]
/-- the reference's stack -/
theorem turnsL_ok {D : DT} {M : AM} {n : Nat} {g : Nat → Int32} (hok : okF D n) (hn : gI M 105 18 = nI n) (hst : ∀ i, i < n → gI M 110 i = nI (D 5 i) ∧ gI M 111 i = nI (D 6 i)) (hg : ∀ i, i < 6 → gI M 114 i = g i) : ∃ M', f_Mo_turnsAt_l83 fu 0 0 M = some ((), M') ∧ gI M' 113 0 = (evs D g n).2 0 ∧ (∀ c k, c ≠ 113 → gI M' c k = gI M c k) ∧ ∀ c k, gR M' c k = gR M c k := by
  have hn269 := hok.1
  have key : ∃ o, f_Mo_turnsAt_l83 fu 0 0 M = some o ∧ ((∀ j, j < (evs D g n).1 → gI o.2 113 j = (evs D g n).2 j) ∧ (∀ c k, c ≠ 113 → gI o.2 c k = gI M c k) ∧ ∀ c k, gR o.2 c k = gR M c k) := by
    refine for_inv (fun z (s : Int32 × Int32 × AM) => f_Mo_turnsAt_l83 z s.1 s.2.1 s.2.2) (fun k s => s.1 = nI (evs D g k).1 ∧ s.2.1 = nI k ∧ (∀ j, j < (evs D g k).1 → gI s.2.2 113 j = (evs D g k).2 j) ∧ (∀ c k, c ≠ 113 → gI s.2.2 c k = gI M c k) ∧ ∀ c k, gR s.2.2 c k = gR M c k) n _ (fun k s z hk hI => ?_) (fun s z hI => ?_) n 0 (0, 0, M) fu (by omega) (by rw [fu_eq]; omega) ⟨rfl, rfl, fun j hj => absurd hj (Nat.not_lt_zero j), fun c k _ => rfl, fun c k => rfl⟩
    · obtain ⟨v1, v2, N⟩ := s
      obtain ⟨rfl, rfl, i3, i4, i5⟩ := hI
      simp only at i3 i4 i5
      left
      have hs := hok.step g hk
      have hle := ev_le hok g (k := k) (by omega)
      have hx := hst k hk
      have hb : ∀ R, f_Mo_turnsAt_b83 (f_Mo_turnsAt_l83 z) (nI (evs D g k).1) (nI k) N = R → f_Mo_turnsAt_l83 (z + 1) (nI (evs D g k).1) (nI k) N = R := fun R hR => hR
      have g1 : gI N 105 18 = nI n := by rw [i4 _ _ (by omega)]; exact hn
      have g2 : gI N 110 k = nI (D 5 k) := by rw [i4 _ _ (by omega)]; exact hx.1
      have g3 : gI N 111 k = nI (D 6 k) := by rw [i4 _ _ (by omega)]; exact hx.2
      rcases (hok.2.2 k hk).1 with ⟨k0, hv⟩ | ⟨k1, hv⟩ | ⟨k2, hv⟩ | ⟨k3, hv⟩
      · rw [k0] at g2
        have hh := hs.2.1 (by omega)
        refine ⟨(nI ((evs D g k).1 + 1), nI (k + 1), sI N 113 (evs D g k).1 (nI (D 6 k))), ⟨by rw [evs_0 k0], rfl, fun j hj => ?_, fun c k hc => ?_, i5⟩, hb _ ?_⟩
        · rw [evs_0 k0] at hj ⊢
          simp only at hj ⊢
          rw [gI_sI]
          by_cases hje : j = (evs D g k).1
          · rw [if_pos ⟨rfl, hje⟩, if_pos hje]
          · rw [if_neg (by omega), if_neg hje]; exact i3 j (by omega)
        · rw [gI_sI, if_neg (by omega)]; exact i4 c k hc
        · unfold f_Mo_turnsAt_b83 f_Mo_turnsAt_j113 f_Mo_turnsAt_j151
          rw [g1, if_neg (nI_ge hk (by omega)), ald_nI (by omega) (by decide), g2, if_pos (by decide), ald_nI (by omega) (by decide), g2, if_pos (by decide), ald_nI (by omega) (by decide), g3, ast_nI (by omega) (by decide), nI_1, nI_1]
      · rw [k1] at g2
        have hh := hs.2.1 (by omega)
        refine ⟨(nI ((evs D g k).1 + 1), nI (k + 1), sI N 113 (evs D g k).1 (g (D 6 k))), ⟨by rw [evs_1 k1], rfl, fun j hj => ?_, fun c k hc => ?_, i5⟩, hb _ ?_⟩
        · rw [evs_1 k1] at hj ⊢
          simp only at hj ⊢
          rw [gI_sI]
          by_cases hje : j = (evs D g k).1
          · rw [if_pos ⟨rfl, hje⟩, if_pos hje]
          · rw [if_neg (by omega), if_neg hje]; exact i3 j (by omega)
        · rw [gI_sI, if_neg (by omega)]; exact i4 c k hc
        · unfold f_Mo_turnsAt_b83 f_Mo_turnsAt_j113 f_Mo_turnsAt_j151
          rw [g1, if_neg (nI_ge hk (by omega)), ald_nI (by omega) (by decide), g2, if_neg (by decide), ald_nI (by omega) (by decide), g2, if_pos (by decide), ald_nI (by omega) (by decide), g2, if_neg (by decide), ald_nI (by omega) (by decide), g3, ald_nI (by omega) (by decide), i4 _ _ (by omega), hg _ (by omega), ast_nI (by omega) (by decide), nI_1, nI_1]
      · rw [k2] at g2
        have hh := hs.2.2.1 k2
        refine ⟨(nI (evs D g k).1, nI (k + 1), sI N 113 ((evs D g k).1 - 1) (if (evs D g k).2 ((evs D g k).1 - 1) = 0 then 1 else 0)), ⟨by rw [evs_2 k2], rfl, fun j hj => ?_, fun c k hc => ?_, i5⟩, hb _ ?_⟩
        · rw [evs_2 k2] at hj ⊢
          simp only at hj ⊢
          rw [gI_sI]
          by_cases hje : j = (evs D g k).1 - 1
          · rw [if_pos ⟨rfl, hje⟩, if_pos hje]
          · rw [if_neg (by omega), if_neg hje]; exact i3 j hj
        · rw [gI_sI, if_neg (by omega)]; exact i4 c k hc
        · have em : nI (evs D g k).1 - 1 = nI ((evs D g k).1 - 1) := by rw [nI_lit 1, pk_sub (by omega)]
          unfold f_Mo_turnsAt_b83 f_Mo_turnsAt_j194
          rw [g1, if_neg (nI_ge hk (by omega)), ald_nI (by omega) (by decide), g2, if_neg (by decide), ald_nI (by omega) (by decide), g2, if_neg (by decide), ald_nI (by omega) (by decide), g2, if_pos (by decide), em, ald_nI (by omega) (by decide), i3 _ (by omega), truth_1, truth_0, bnd_s, bnd_s, ast_nI (by omega) (by decide), ast_nI (by omega) (by decide), nI_1]
          split <;> rfl
      · rw [k3] at g2
        have hh := hs.2.2.2 k3
        have hj := moDone_ok hv ((evs D g k).2 ((evs D g k).1 - 2)) ((evs D g k).2 ((evs D g k).1 - 1)) N
        refine ⟨(nI ((evs D g k).1 - 1), nI (k + 1), sI N 113 ((evs D g k).1 - 2) (done2 (D 6 k) ((evs D g k).2 ((evs D g k).1 - 2)) ((evs D g k).2 ((evs D g k).1 - 1)))), ⟨by rw [evs_3 k3], rfl, fun j hj => ?_, fun c k hc => ?_, i5⟩, hb _ ?_⟩
        · rw [evs_3 k3] at hj ⊢
          simp only at hj ⊢
          rw [gI_sI]
          by_cases hje : j = (evs D g k).1 - 2
          · rw [if_pos ⟨rfl, hje⟩, if_pos hje]
          · rw [if_neg (by omega), if_neg hje]; exact i3 j (by omega)
        · rw [gI_sI, if_neg (by omega)]; exact i4 c k hc
        · have em : nI (evs D g k).1 + -1 = nI ((evs D g k).1 - 1) := by rw [← Int32.sub_eq_add_neg, nI_lit 1, pk_sub (by omega)]
          have em2 : nI ((evs D g k).1 - 1) - 1 = nI ((evs D g k).1 - 2) := by rw [nI_lit 1, pk_sub (by omega)]; rfl
          unfold f_Mo_turnsAt_b83
          rw [g1, if_neg (nI_ge hk (by omega)), ald_nI (by omega) (by decide), g2, if_neg (by decide), ald_nI (by omega) (by decide), g2, if_neg (by decide), ald_nI (by omega) (by decide), g2, if_neg (by decide), ald_nI (by omega) (by decide), g3, em, em2, ald_nI (by omega) (by decide), ald_nI (by omega) (by decide), i3 _ (by omega), i3 _ (by omega), hj, bnd_s, ast_nI (by omega) (by decide), nI_1]
    · obtain ⟨v1, v2, N⟩ := s
      obtain ⟨rfl, rfl, i3, i4, i5⟩ := hI
      refine ⟨((), N), ?_, i3, i4, i5⟩
      show f_Mo_turnsAt_b83 (f_Mo_turnsAt_l83 z) (nI (evs D g n).1) (nI n) N = _
      unfold f_Mo_turnsAt_b83
      rw [show gI N 105 18 = nI n by rw [i4 _ _ (by omega)]; exact hn, if_pos (nI_le (Nat.le_refl _) (by omega))]
  obtain ⟨⟨v, N⟩, k1, k3, k4, k5⟩ := key
  have h1 : (evs D g n).1 = 1 := hgt_ev hok.2.1
  exact ⟨N, k1, k3 0 (by omega), k4, k5⟩
