theorem Both.pure {α : Type} {fC fM : AM → Option (α × AM)} (h : ∀ D M, Rel D M → ∃ r, fC M = some (r, M) ∧ fM M = some (r, M)) : Both fC fM := by
  intro D M hR
  obtain ⟨r, h1, h2⟩ := h D M hR
  exact ⟨r, M, M, D, h1, h2, hR⟩
theorem p2_le {n : Nat} (h : n ≤ 8) : 2 ^ n ≤ 256 := by
  have : 2 ^ n ≤ 2 ^ 8 := Nat.pow_le_pow_right (by decide) h
  omega
theorem p2_pos (n : Nat) : 0 < 2 ^ n := Nat.pow_pos (by decide)
section SMALL
variable {D : DT} {M : AM}
theorem Rel.st (h : Rel D M) : okS5 D (10 + D 7 0) := h.2.1.2.2.1 _ h.2.1.1
theorem Rel.pic (h : Rel D M) : D (10 + D 7 0) 0 < 2 ^ D 0 0 := h.st.1
theorem Rel.pic' (h : Rel D M) : D (10 + D 7 0) 0 < 256 := Nat.lt_of_lt_of_le h.st.1 (p2_le h.1.1)
theorem Rel.tied (h : Rel D M) : D (10 + D 7 0) 1 < 2 ^ D 0 1 := h.st.2.1
theorem Rel.tied' (h : Rel D M) : D (10 + D 7 0) 1 < 256 := Nat.lt_of_lt_of_le h.st.2.1 (p2_le h.1.2.1)
theorem Rel.cell (h : Rel D M) : 40 ≤ gR M 39 (D 7 0) ∧ gR M 39 (D 7 0) ≤ 80 := h.2.2.2.2.2.2.1.2.2.1 _ (by have := h.2.1.1; have := h.2.1.2.1; omega)
theorem kd_st {c : Nat} (h : 40 ≤ c ∧ c ≤ 80) : kd0 c = 9 := by
  have : ∀ c, c < 81 → 40 ≤ c → kd0 c = 9 := by decide +kernel
  exact this c (by omega) h.1
theorem cur_ok (h : Rel D M) : f_Acts_current M = some (gR M 39 (D 7 0), M) := by
  unfold f_Acts_current
  rw [h.2.2.2.2.2.2.1.1, rald_nI (by have := h.2.1.1; have := h.2.1.2.1; omega) (by decide) (kd_st h.cell)]
theorem cst (h : Rel D M) {i : Nat} (hi : i < 5) : gI M (gR M 39 (D 7 0)) i = nI (D (10 + D 7 0) i) := h.2.2.2.2.2.2.1.2.2.2.2 _ i h.2.1.1 hi
theorem now_ok (h : Rel D M) {i : Nat} (hi : i < 5) : gI M 123 i = nI (D (10 + D 7 0) i) := h.2.2.2.2.2.2.2.1.2.2.1 i hi
theorem now_ald {β : Type} {κ : Int32 → Option β} (h : Rel D M) (i : Int32) (j : Nat) (hij : i = nI j) (hj : j < 5) : ald 5 M 123 i κ = κ (nI (D (10 + D 7 0) j)) := by
  rw [hij, ald_nI hj (by decide), now_ok h hj]
theorem in_cases (x : Int32) (n : Nat) (hn : n < 2 ^ 31) : (∃ j, j < n ∧ x = nI j) ∨ (x < 0 ∨ nI n ≤ x) := by
  rcases pk_ix x hn with h | h | h
  · exact Or.inr (Or.inl h)
  · exact Or.inr (Or.inr h)
  · exact Or.inl h
theorem isIn_in {j n : Nat} (h : j < n) (hn : n < 2 ^ 30) : f_Mo_isIn (nI j) 0 (nI n - 1) M = some (1, M) := by
  unfold f_Mo_isIn
  rw [if_neg (nI_pos (by omega)), nI_lit 1, pk_sub (by omega), if_neg (nI_nlt (by omega) (by omega))]
theorem isIn_out {x : Int32} {n : Nat} (h : x < 0 ∨ nI n ≤ x) (hn : n < 2 ^ 30) : f_Mo_isIn x 0 (nI n - 1) M = some (0, M) := by
  unfold f_Mo_isIn
  by_cases h0 : x < 0
  · rw [if_pos h0]
  · rw [if_neg h0, if_pos]
    have h1 : nI n ≤ x := h.resolve_left h0
    rw [Int32.le_iff_toInt_le, nI_toInt (by omega)] at h1
    rw [Int32.lt_iff_toInt_lt, nI_lit 1, pk_sub_toInt hn (by decide)]
    omega
theorem isIn01 (x : Int32) : f_Mo_isIn x 0 1 M = some (if x = 0 ∨ x = 1 then 1 else 0, M) := by
  unfold f_Mo_isIn
  by_cases h0 : x < 0
  · rw [if_pos h0, if_neg]
    rintro (rfl | rfl) <;> exact absurd h0 (by decide)
  · rw [if_neg h0]
    by_cases h1 : 1 < x
    · rw [if_pos h1, if_neg]
      rintro (rfl | rfl) <;> exact absurd h1 (by decide)
    · rw [if_neg h1, if_pos]
      rw [Int32.lt_iff_toInt_lt] at h0 h1
      have e0 : (0 : Int32).toInt = 0 := by decide
      have e1 : (1 : Int32).toInt = 1 := by decide
      rw [e0] at h0; rw [e1] at h1
      rcases (show x.toInt = 0 ∨ x.toInt = 1 by omega) with q | q
      · left; exact Int32.toInt_inj.mp (by rw [q]; rfl)
      · right; exact Int32.toInt_inj.mp (by rw [q]; rfl)
theorem nlt (h : Rel D M) : D 0 0 < 2 ^ 30 := by have := h.1.1; omega
theorem nct (h : Rel D M) : D 0 1 < 2 ^ 30 := by have := h.1.2.1; omega
theorem hasLamp_in (h : Rel D M) {j : Nat} (hj : j < D 0 0) : f_Plan_hasLamp (gR M 0 3) (nI j) M = some (1, M) := by
  have := nlt h
  unfold f_Plan_hasLamp
  rw [if_neg (nI_pos (by omega)), h.2.2.2.1.1.1, if_neg (nI_ge hj (by omega))]
theorem hasLamp_out (h : Rel D M) {x : Int32} (hx : x < 0 ∨ nI (D 0 0) ≤ x) : f_Plan_hasLamp (gR M 0 3) x M = some (0, M) := by
  unfold f_Plan_hasLamp
  by_cases h0 : x < 0
  · rw [if_pos h0]
  · rw [if_neg h0, h.2.2.2.1.1.1, if_pos (hx.resolve_left h0)]
theorem hasCord_in (h : Rel D M) {j : Nat} (hj : j < D 0 1) : f_Plan_hasCord (gR M 0 3) (nI j) M = some (1, M) := by
  have := nct h
  unfold f_Plan_hasCord
  rw [if_neg (nI_pos (by omega)), h.2.2.2.1.1.2.2.1, if_neg (nI_ge hj (by omega))]
theorem hasCord_out (h : Rel D M) {x : Int32} (hx : x < 0 ∨ nI (D 0 1) ≤ x) : f_Plan_hasCord (gR M 0 3) x M = some (0, M) := by
  unfold f_Plan_hasCord
  by_cases h0 : x < 0
  · rw [if_pos h0]
  · rw [if_neg h0, h.2.2.2.1.1.2.2.1, if_pos (hx.resolve_left h0)]
theorem isLamp_in (h : Rel D M) {j : Nat} (hj : j < D 0 0) : f_Mo_isLamp (nI j) M = some (1, M) := by
  unfold f_Mo_isLamp
  rw [h.2.2.2.2.2.1.1.1, isIn_in hj (nlt h)]; rfl
theorem isLamp_out (h : Rel D M) {x : Int32} (hx : x < 0 ∨ nI (D 0 0) ≤ x) : f_Mo_isLamp x M = some (0, M) := by
  unfold f_Mo_isLamp
  rw [h.2.2.2.2.2.1.1.1, isIn_out hx (nlt h)]; rfl
theorem isCord_in (h : Rel D M) {j : Nat} (hj : j < D 0 1) : f_Mo_isCord (nI j) M = some (1, M) := by
  unfold f_Mo_isCord
  rw [h.2.2.2.2.2.1.1.2.2.1, isIn_in hj (nct h)]; rfl
theorem isCord_out (h : Rel D M) {x : Int32} (hx : x < 0 ∨ nI (D 0 1) ≤ x) : f_Mo_isCord x M = some (0, M) := by
  unfold f_Mo_isCord
  rw [h.2.2.2.2.2.1.1.2.2.1, isIn_out hx (nct h)]; rfl
theorem allPictures_ok (h : Rel D M) : f_Plan_allPictures (gR M 0 3) M = some (nI (2 ^ D 0 0), M) := by
  unfold f_Plan_allPictures
  rw [h.2.2.2.1.1.1, nx_one _ (by have := h.1.1; omega)]
theorem hasPicture_in (h : Rel D M) {j : Nat} (hj : j < 2 ^ D 0 0) : f_Plan_hasPicture (gR M 0 3) (nI j) M = some (1, M) := by
  have := p2_le h.1.1
  unfold f_Plan_hasPicture
  rw [if_neg (nI_pos (by omega)), allPictures_ok h, bnd_s, if_neg (nI_ge hj (by omega))]
theorem hasPicture_out (h : Rel D M) {x : Int32} (hx : x < 0 ∨ nI (2 ^ D 0 0) ≤ x) : f_Plan_hasPicture (gR M 0 3) x M = some (0, M) := by
  unfold f_Plan_hasPicture
  by_cases h0 : x < 0
  · rw [if_pos h0]
  · rw [if_neg h0, allPictures_ok h, bnd_s, if_pos (hx.resolve_left h0)]
theorem isPicture_in (h : Rel D M) {j : Nat} (hj : j < 2 ^ D 0 0) : f_Mo_isPicture (nI j) M = some (1, M) := by
  have := p2_le h.1.1
  unfold f_Mo_isPicture
  rw [h.2.2.2.2.2.1.1.1, nx_one _ (by have := h.1.1; omega), isIn_in hj (by omega)]; rfl
theorem isPicture_out (h : Rel D M) {x : Int32} (hx : x < 0 ∨ nI (2 ^ D 0 0) ≤ x) : f_Mo_isPicture x M = some (0, M) := by
  have := p2_le h.1.1
  unfold f_Mo_isPicture
  rw [h.2.2.2.2.2.1.1.1, nx_one _ (by have := h.1.1; omega), isIn_out hx (by omega)]; rfl
theorem has_ok {a k : Nat} (ha : a < 2 ^ 31) (hk : k < 32) : f_Mo_has (nI a) (nI k) M = some (if a.testBit k then 1 else 0, M) := by
  unfold f_Mo_has
  rw [nx_bit ha hk, tb_mod]
  by_cases hb : a.testBit k = true
  · rw [if_pos hb, if_pos (by decide), if_pos hb]
  · rw [if_neg hb, if_neg (by decide), if_neg hb]
theorem truth_b {P : Prop} [Decidable P] : f_Mo_truth (if P then 1 else 0) M = some (if P then 1 else 0, M) := by
  unfold f_Mo_truth
  by_cases h : P
  · rw [if_pos h, if_neg (by decide)]
  · rw [if_neg h, if_pos rfl]
theorem truth_0 : f_Mo_truth 0 M = some (0, M) := rfl
theorem truth_1 : f_Mo_truth 1 M = some (1, M) := rfl
theorem isTied_ok (h : Rel D M) {k : Nat} (hk : k < 32) : f_Mo_isTied (nI k) M = some (if (D (10 + D 7 0) 1).testBit k then 1 else 0, M) := by
  unfold f_Mo_isTied
  rw [now_ald h 1 1 rfl (by decide), has_ok (by have := h.tied'; omega) hk]; rfl
/-- free cords -/
def frN (nc td : Nat) : Nat := (2 ^ nc - 1) ^^^ td
theorem fr_I : ∀ nc, nc < 9 → ∀ t, t < 256 → t < 2 ^ nc → ((1 : Int32) <<< (nI nc &&& 31) - 1) &&& (nI t ^^^ (-1)) = nI (frN nc t) := by decide +kernel
theorem fr_tb : ∀ nc, nc < 9 → ∀ t, t < 256 → t < 2 ^ nc → ∀ c, c < 8 → (frN nc t).testBit c = (decide (c < nc) && !t.testBit c) := by decide +kernel
theorem fr_lt : ∀ nc, nc < 9 → ∀ t, t < 256 → t < 2 ^ nc → frN nc t < 2 ^ nc := by decide +kernel
theorem Rel.fr (h : Rel D M) : frN (D 0 1) (D (10 + D 7 0) 1) < 2 ^ D 0 1 := fr_lt _ (by have := h.1.2.1; omega) _ h.tied' h.tied
theorem Rel.fr' (h : Rel D M) : frN (D 0 1) (D (10 + D 7 0) 1) < 256 := Nat.lt_of_lt_of_le h.fr (p2_le h.1.2.1)
theorem Mo_free_ok (h : Rel D M) : f_Mo_free M = some (nI (frN (D 0 1) (D (10 + D 7 0) 1)), M) := by
  unfold f_Mo_free
  rw [now_ald h 1 1 rfl (by decide), h.2.2.2.2.2.1.1.2.2.1, fr_I _ (by have := h.1.2.1; omega) _ h.tied' h.tied]
theorem pl_kd (h : Rel D M) : kd0 (gR M 0 3) = 5 := h.2.2.1.kd
theorem allCords_ok (h : Rel D M) : f_Plan_allCords (gR M 0 3) M = some (nI (2 ^ D 0 1 - 1), M) := by
  unfold f_Plan_allCords
  have := p2_pos (D 0 1)
  rw [h.2.2.2.1.1.2.2.1, nx_one _ (by have := h.1.2.1; omega), nI_lit 1, pk_sub (by omega)]
theorem C_free_ok (h : Rel D M) : f_C_freeCords M = some (nI (frN (D 0 1) (D (10 + D 7 0) 1)), M) := by
  unfold f_C_freeCords f_Plan_allCords
  rw [ckK_eq (pl_kd h), bnd_s, cur_ok h, bnd_s, cst h (by decide), h.2.2.2.1.1.2.2.1, fr_I _ (by have := h.1.2.1; omega) _ h.tied' h.tied]
theorem isFree_in (h : Rel D M) {j : Nat} (hj : j < D 0 1) : f_C_isFree (nI j) M = some (if (D (10 + D 7 0) 1).testBit j then 0 else 1, M) := by
  unfold f_C_isFree
  rw [ckK_eq (pl_kd h), hasCord_in h hj, bnd_s, if_neg (by decide), cur_ok h, bnd_s, cst h (by decide), nx_bit (by have := h.tied'; omega) (by have := h.1.2.1; omega), tb_mod]
  by_cases hb : (D (10 + D 7 0) 1).testBit j = true
  · rw [if_pos hb, if_neg (by decide), if_pos hb]
  · rw [if_neg hb, if_pos (by decide), if_neg hb]
theorem isFree_out (h : Rel D M) {x : Int32} (hx : x < 0 ∨ nI (D 0 1) ≤ x) : f_C_isFree x M = some (0, M) := by
  unfold f_C_isFree
  rw [ckK_eq (pl_kd h), hasCord_out h hx, bnd_s, if_pos rfl]
theorem CisTied_in (h : Rel D M) {j : Nat} (hj : j < D 0 1) : f_C_isTied (nI j) M = some (if (D (10 + D 7 0) 1).testBit j then 1 else 0, M) := by
  unfold f_C_isTied
  rw [ckK_eq (pl_kd h), hasCord_in h hj, bnd_s, if_neg (by decide), cur_ok h, bnd_s, cst h (by decide), nx_bit (by have := h.tied'; omega) (by have := h.1.2.1; omega), tb_mod]
  by_cases hb : (D (10 + D 7 0) 1).testBit j = true
  · rw [if_pos hb, if_neg (by decide), if_pos hb]
  · rw [if_neg hb, if_pos (by decide), if_neg hb]
theorem CisTied_out (h : Rel D M) {x : Int32} (hx : x < 0 ∨ nI (D 0 1) ≤ x) : f_C_isTied x M = some (0, M) := by
  unfold f_C_isTied
  rw [ckK_eq (pl_kd h), hasCord_out h hx, bnd_s, if_pos rfl]
theorem either_eq (a x y : Int32) : f_C_either a x y M = some (if a = 0 then x else if a = 1 then y else -1, M) := by
  unfold f_C_either
  by_cases h0 : a = 0
  · rw [if_pos h0, if_pos h0]
  · rw [if_neg h0, if_neg h0]
    by_cases h1 : a = 1
    · rw [if_pos h1, if_pos h1]
    · rw [if_neg h1, if_neg h1]
/-- the cords of a lamp -/
theorem tbf_lt (tn : Nat → Nat) (l : Nat) : ∀ n, tbf tn l n < 2 ^ n := by
  intro n
  induction n with
  | zero => simp [tbf]
  | succ n ih =>
    unfold tbf
    refine Nat.or_lt_two_pow (Nat.lt_of_lt_of_le ih (Nat.pow_le_pow_right (by decide) (by omega))) ?_
    have h1 : tn n / 2 ^ l % 2 ≤ 1 := by omega
    have h2 : tn n / 2 ^ l % 2 * 2 ^ n ≤ 1 * 2 ^ n := Nat.mul_le_mul_right _ h1
    have h3 : 0 < 2 ^ n := p2_pos n
    rw [Nat.pow_succ]
    omega
theorem cordsOf_ok (h : Rel D M) {l : Nat} (hl : l < 32) : f_Mo_cordsOf (nI l) M = some (nI (tbf (D 3) l (D 0 1)), M) := by
  unfold f_Mo_cordsOf
  have hnc := h.1.2.1
  have key : f_Mo_cordsOf_l4 (nI l) fu 0 0 M = some (nI (tbf (D 3) l (D 0 1)), M) := for_up (fun z (s : Int32 × Int32 × AM) => f_Mo_cordsOf_l4 (nI l) z s.1 s.2.1 s.2.2) (fun k => (nI (tbf (D 3) l k), nI k, M)) (D 0 1) _
    (fun k z hk => by
      show f_Mo_cordsOf_b4 (f_Mo_cordsOf_l4 (nI l) z) (nI l) (nI (tbf (D 3) l k)) (nI k) M = f_Mo_cordsOf_l4 (nI l) z (nI (tbf (D 3) l (k + 1))) (nI (k + 1)) M
      unfold f_Mo_cordsOf_b4
      have hc := h.2.2.2.2.2.1.2.2.1 k hk
      have ht := (h.1.2.2.2.2.2.2.2.1 k hk).1
      have := p2_le h.1.1
      rw [h.2.2.2.2.2.1.1.2.2.1, if_neg (nI_ge hk (by omega)), ald_nI (by omega) (by decide), hc.1, nx_bit (by omega) hl, nx_sh1 (by omega) (by omega), nx_or, nI_1]
      rfl)
    (fun z => by
      show f_Mo_cordsOf_b4 (f_Mo_cordsOf_l4 (nI l) z) (nI l) (nI (tbf (D 3) l (D 0 1))) (nI (D 0 1)) M = _
      unfold f_Mo_cordsOf_b4
      rw [h.2.2.2.2.2.1.1.2.2.1, if_pos (nI_le (Nat.le_refl _) (by omega))]) (D 0 1) 0 fu (by omega) (by rw [fu_eq]; omega)
  rw [bnd_eq key]
/-- watts of a picture, over the first n lamps -/
def ws (w : Nat → Nat) (a : Nat) : Nat → Nat
  | 0 => 0
  | n + 1 => ws w a n + (a / 2 ^ n % 2) * w n
theorem Plan_wattsOf_ok (h : Rel D M) {a : Nat} (ha : a < 2 ^ 31) : f_Plan_wattsOf (gR M 0 3) (nI a) M = some (nI (ws (D 1) a (D 0 0)), M) := by
  unfold f_Plan_wattsOf
  have hnl := h.1.1
  have key : f_Plan_wattsOf_l4 (gR M 0 3) (nI a) fu 0 0 M = some (nI (ws (D 1) a (D 0 0)), M) := for_up (fun z (s : Int32 × Int32 × AM) => f_Plan_wattsOf_l4 (gR M 0 3) (nI a) z s.1 s.2.1 s.2.2) (fun k => (nI (ws (D 1) a k), nI k, M)) (D 0 0) _
    (fun k z hk => by
      show f_Plan_wattsOf_b4 (f_Plan_wattsOf_l4 (gR M 0 3) (nI a) z) (gR M 0 3) (nI a) (nI (ws (D 1) a k)) (nI k) M = f_Plan_wattsOf_l4 (gR M 0 3) (nI a) z (nI (ws (D 1) a (k + 1))) (nI (k + 1)) M
      unfold f_Plan_wattsOf_b4
      rw [h.2.2.2.1.1.1, if_neg (nI_ge hk (by omega)), ald_nI (by omega) (by decide), (h.2.2.2.1.2.1 k hk).1, nx_bit ha (by omega), pk_mul, nI_add, nI_1]
      rfl)
    (fun z => by
      show f_Plan_wattsOf_b4 (f_Plan_wattsOf_l4 (gR M 0 3) (nI a) z) (gR M 0 3) (nI a) (nI (ws (D 1) a (D 0 0))) (nI (D 0 0)) M = _
      unfold f_Plan_wattsOf_b4
      rw [h.2.2.2.1.1.1, if_pos (nI_le (Nat.le_refl _) (by omega))]) (D 0 0) 0 fu (by omega) (by rw [fu_eq]; omega)
  rw [bnd_eq key]
theorem Mo_wattsOf_ok (h : Rel D M) {a : Nat} (ha : a < 2 ^ 31) : f_Mo_wattsOf (nI a) M = some (nI (ws (D 1) a (D 0 0)), M) := by
  unfold f_Mo_wattsOf
  have hnl := h.1.1
  have key : f_Mo_wattsOf_l4 (nI a) fu 0 0 M = some (nI (ws (D 1) a (D 0 0)), M) := for_up (fun z (s : Int32 × Int32 × AM) => f_Mo_wattsOf_l4 (nI a) z s.1 s.2.1 s.2.2) (fun k => (nI (ws (D 1) a k), nI k, M)) (D 0 0) _
    (fun k z hk => by
      show f_Mo_wattsOf_b4 (f_Mo_wattsOf_l4 (nI a) z) (nI a) (nI (ws (D 1) a k)) (nI k) M = f_Mo_wattsOf_l4 (nI a) z (nI (ws (D 1) a (k + 1))) (nI (k + 1)) M
      unfold f_Mo_wattsOf_b4
      rw [h.2.2.2.2.2.1.1.1, if_neg (nI_ge hk (by omega)), has_ok ha (by omega), bnd_s]
      by_cases hb : a.testBit k = true
      · rw [if_pos hb, if_neg (by decide), ald_nI (by omega) (by decide), (h.2.2.2.2.2.1.2.1 k hk).1, nI_add, nI_1]
        show _ = f_Mo_wattsOf_l4 (nI a) z (nI (ws (D 1) a k + (a / 2 ^ k % 2) * D 1 k)) (nI (k + 1)) M
        rw [tb_mod, if_pos hb, Nat.one_mul]
      · rw [if_neg hb, if_pos rfl, nI_lit 0, nI_add, nI_1]
        show _ = f_Mo_wattsOf_l4 (nI a) z (nI (ws (D 1) a k + (a / 2 ^ k % 2) * D 1 k)) (nI (k + 1)) M
        rw [tb_mod, if_neg hb, Nat.zero_mul])
    (fun z => by
      show f_Mo_wattsOf_b4 (f_Mo_wattsOf_l4 (nI a) z) (nI a) (nI (ws (D 1) a (D 0 0))) (nI (D 0 0)) M = _
      unfold f_Mo_wattsOf_b4
      rw [h.2.2.2.2.2.1.1.1, if_pos (nI_le (Nat.le_refl _) (by omega))]) (D 0 0) 0 fu (by omega) (by rw [fu_eq]; omega)
  rw [bnd_eq key]
end SMALL
