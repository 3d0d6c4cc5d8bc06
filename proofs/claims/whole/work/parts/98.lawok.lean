/-! every call of a script -/
def Gd (o : Option ((Unit × AM) ⊕ (Int32 × AM))) : Prop := ∃ M', o = some (.inl ((), M'))
theorem swi_g {x k : Int32} {A D : Option ((Unit × AM) ⊕ (Int32 × AM))} {r : List (Int32 × Option ((Unit × AM) ⊕ (Int32 × AM)))} (h1 : Gd A) (h2 : Gd (swi x r D)) : Gd (swi x ((k, A) :: r) D) := by
  show Gd (if x = k then A else swi x r D)
  split
  · exact h1
  · exact h2
theorem law_step {L : Nat} {xs : Nat → Int32} (hL : L ≤ 3072) {j y : Nat} (hj : 6 * j + 6 ≤ L) (ih : ∀ D M, Rel D M → Gd (f_Law_law_l18 L xs y (nI (6 * j) + 6) M)) {D : DT} {M : AM} (h : Rel D M) : Gd (f_Law_law_b18 L xs (f_Law_law_l18 L xs y) (nI (6 * j)) M) := by
  have s0 : ∀ (β : Type) (κ : Int32 → Option β), sald L xs (nI (6 * j)) κ = κ (xs (6 * j)) := fun β κ => sald_nI (by omega) (by omega)
  have s1 : ∀ (β : Type) (κ : Int32 → Option β), sald L xs (nI (6 * j) + 1) κ = κ (xs (6 * j + 1)) := fun β κ => by
    rw [nI_lit 1, nI_add]
    exact sald_nI (by omega) (by omega)
  have s2 : ∀ (β : Type) (κ : Int32 → Option β), sald L xs (nI (6 * j) + 2) κ = κ (xs (6 * j + 2)) := fun β κ => by
    rw [nI_lit 2, nI_add]
    exact sald_nI (by omega) (by omega)
  have s3 : ∀ (β : Type) (κ : Int32 → Option β), sald L xs (nI (6 * j) + 3) κ = κ (xs (6 * j + 3)) := fun β κ => by
    rw [nI_lit 3, nI_add]
    exact sald_nI (by omega) (by omega)
  have s4 : ∀ (β : Type) (κ : Int32 → Option β), sald L xs (nI (6 * j) + 4) κ = κ (xs (6 * j + 4)) := fun β κ => by
    rw [nI_lit 4, nI_add]
    exact sald_nI (by omega) (by omega)
  have s5 : ∀ (β : Type) (κ : Int32 → Option β), sald L xs (nI (6 * j) + 5) κ = κ (xs (6 * j + 5)) := fun β κ => by
    rw [nI_lit 5, nI_add]
    exact sald_nI (by omega) (by omega)
  unfold f_Law_law_b18
  rw [nI_lit 6, pk_sub (by omega), if_neg (nI_nlt (by omega) (by omega)), s0]
  refine swi_g ?_ ?_
  · obtain ⟨r, N1, N2, D', e1, e2, e3⟩ := B_feed (xs (6 * j + 1)) (xs (6 * j + 2)) (xs (6 * j + 3)) (xs (6 * j + 4)) (xs (6 * j + 5)) D M h
    rw [s1, s2, s3, s4, s5, e1, bnd_s, s1, s2, s3, s4, s5, e2, bnd_s, if_pos rfl]
    exact ih D' N2 e3
  refine swi_g ?_ ?_
  · obtain ⟨r, N1, N2, D', e1, e2, e3⟩ := B_end (xs (6 * j + 1)) D M h
    rw [s1, e1, bnd_s, s1, e2, bnd_s, if_pos rfl]
    exact ih D' N2 e3
  refine swi_g ?_ ?_
  · obtain ⟨r, N1, N2, D', e1, e2, e3⟩ := B_loft  D M h
    rw [e1, bnd_s, e2, bnd_s, if_pos rfl]
    exact ih D' N2 e3
  refine swi_g ?_ ?_
  · obtain ⟨r, N1, N2, D', e1, e2, e3⟩ := B_fault (xs (6 * j + 1)) D M h
    rw [s1, e1, bnd_s, s1, e2, bnd_s, if_pos rfl]
    exact ih D' N2 e3
  refine swi_g ?_ ?_
  · obtain ⟨r, N1, N2, D', e1, e2, e3⟩ := B_lamp (xs (6 * j + 1)) (xs (6 * j + 2)) D M h
    rw [s1, s2, e1, bnd_s, s1, s2, e2, bnd_s, if_pos rfl]
    exact ih D' N2 e3
  refine swi_g ?_ ?_
  · obtain ⟨r, N1, N2, D', e1, e2, e3⟩ := B_cord (xs (6 * j + 1)) (xs (6 * j + 2)) D M h
    rw [s1, s2, e1, bnd_s, s1, s2, e2, bnd_s, if_pos rfl]
    exact ih D' N2 e3
  refine swi_g ?_ ?_
  · obtain ⟨r, N1, N2, D', e1, e2, e3⟩ := B_picture  D M h
    rw [e1, bnd_s, e2, bnd_s, if_pos rfl]
    exact ih D' N2 e3
  refine swi_g ?_ ?_
  · obtain ⟨r, N1, N2, D', e1, e2, e3⟩ := B_pull (xs (6 * j + 1)) D M h
    rw [s1, e1, bnd_s, s1, e2, bnd_s, if_pos rfl]
    exact ih D' N2 e3
  refine swi_g ?_ ?_
  · obtain ⟨r, N1, N2, D', e1, e2, e3⟩ := B_tie (xs (6 * j + 1)) D M h
    rw [s1, e1, bnd_s, s1, e2, bnd_s, if_pos rfl]
    exact ih D' N2 e3
  refine swi_g ?_ ?_
  · obtain ⟨r, N1, N2, D', e1, e2, e3⟩ := B_loose (xs (6 * j + 1)) D M h
    rw [s1, e1, bnd_s, s1, e2, bnd_s, if_pos rfl]
    exact ih D' N2 e3
  refine swi_g ?_ ?_
  · obtain ⟨r, N1, N2, D', e1, e2, e3⟩ := B_dusk  D M h
    rw [e1, bnd_s, e2, bnd_s, if_pos rfl]
    exact ih D' N2 e3
  refine swi_g ?_ ?_
  · obtain ⟨r, N1, N2, D', e1, e2, e3⟩ := B_undo  D M h
    rw [e1, bnd_s, e2, bnd_s, if_pos rfl]
    exact ih D' N2 e3
  refine swi_g ?_ ?_
  · obtain ⟨r, N1, N2, D', e1, e2, e3⟩ := B_redo  D M h
    rw [e1, bnd_s, e2, bnd_s, if_pos rfl]
    exact ih D' N2 e3
  refine swi_g ?_ ?_
  · obtain ⟨r, N1, N2, D', e1, e2, e3⟩ := B_will (xs (6 * j + 1)) (xs (6 * j + 2)) D M h
    rw [s1, s2, e1, bnd_s, s1, s2, e2, bnd_s, if_pos rfl]
    exact ih D' N2 e3
  refine swi_g ?_ ?_
  · obtain ⟨r, N1, N2, D', e1, e2, e3⟩ := B_can (xs (6 * j + 1)) D M h
    rw [s1, e1, bnd_s, s1, e2, bnd_s, if_pos rfl]
    exact ih D' N2 e3
  refine swi_g ?_ ?_
  · obtain ⟨r, N1, N2, D', e1, e2, e3⟩ := B_fewest (xs (6 * j + 1)) (xs (6 * j + 2)) D M h
    rw [s1, s2, e1, bnd_s, s1, s2, e2, bnd_s, if_pos rfl]
    exact ih D' N2 e3
  refine swi_g ?_ ?_
  · obtain ⟨r, N1, N2, D', e1, e2, e3⟩ := B_cheapest (xs (6 * j + 1)) (xs (6 * j + 2)) D M h
    rw [s1, s2, e1, bnd_s, s1, s2, e2, bnd_s, if_pos rfl]
    exact ih D' N2 e3
  refine swi_g ?_ ?_
  · obtain ⟨r, N1, N2, D', e1, e2, e3⟩ := B_ways (xs (6 * j + 1)) D M h
    rw [s1, e1, bnd_s, s1, e2, bnd_s, if_pos rfl]
    exact ih D' N2 e3
  refine swi_g ?_ ?_
  · obtain ⟨r, N1, N2, D', e1, e2, e3⟩ := B_silent (xs (6 * j + 1)) D M h
    rw [s1, e1, bnd_s, s1, e2, bnd_s, if_pos rfl]
    exact ih D' N2 e3
  refine swi_g ?_ ?_
  · obtain ⟨r, N1, N2, D', e1, e2, e3⟩ := B_pictures  D M h
    rw [e1, bnd_s, e2, bnd_s, if_pos rfl]
    exact ih D' N2 e3
  refine swi_g ?_ ?_
  · obtain ⟨r, N1, N2, D', e1, e2, e3⟩ := B_spare  D M h
    rw [e1, bnd_s, e2, bnd_s, if_pos rfl]
    exact ih D' N2 e3
  refine swi_g ?_ ?_
  · obtain ⟨r, N1, N2, D', e1, e2, e3⟩ := B_brightest (xs (6 * j + 1)) D M h
    rw [s1, e1, bnd_s, s1, e2, bnd_s, if_pos rfl]
    exact ih D' N2 e3
  refine swi_g ?_ ?_
  · obtain ⟨r, N1, N2, D', e1, e2, e3⟩ := B_dimmest (xs (6 * j + 1)) D M h
    rw [s1, e1, bnd_s, s1, e2, bnd_s, if_pos rfl]
    exact ih D' N2 e3
  refine swi_g ?_ ?_
  · obtain ⟨r, N1, N2, D', e1, e2, e3⟩ := B_nearest (xs (6 * j + 1)) (xs (6 * j + 2)) D M h
    rw [s1, s2, e1, bnd_s, s1, s2, e2, bnd_s, if_pos rfl]
    exact ih D' N2 e3
  refine swi_g ?_ ?_
  · obtain ⟨r, N1, N2, D', e1, e2, e3⟩ := B_apart (xs (6 * j + 1)) D M h
    rw [s1, e1, bnd_s, s1, e2, bnd_s, if_pos rfl]
    exact ih D' N2 e3
  refine swi_g ?_ ?_
  · obtain ⟨r, N1, N2, D', e1, e2, e3⟩ := B_mark (xs (6 * j + 1)) D M h
    rw [s1, e1, bnd_s, s1, e2, bnd_s, if_pos rfl]
    exact ih D' N2 e3
  refine swi_g ?_ ?_
  · obtain ⟨r, N1, N2, D', e1, e2, e3⟩ := B_steady (xs (6 * j + 1)) D M h
    rw [s1, e1, bnd_s, s1, e2, bnd_s, if_pos rfl]
    exact ih D' N2 e3
  refine swi_g ?_ ?_
  · obtain ⟨r, N1, N2, D', e1, e2, e3⟩ := B_rows (xs (6 * j + 1)) D M h
    rw [s1, e1, bnd_s, s1, e2, bnd_s, if_pos rfl]
    exact ih D' N2 e3
  refine swi_g ?_ ?_
  · obtain ⟨r, N1, N2, D', e1, e2, e3⟩ := B_game (xs (6 * j + 1)) D M h
    rw [s1, e1, bnd_s, s1, e2, bnd_s, if_pos rfl]
    exact ih D' N2 e3
  refine swi_g ?_ ?_
  · obtain ⟨r, N1, N2, D', e1, e2, e3⟩ := B_again (xs (6 * j + 1)) D M h
    rw [s1, e1, bnd_s, s1, e2, bnd_s, if_pos rfl]
    exact ih D' N2 e3
  refine swi_g ?_ ?_
  · obtain ⟨r, N1, N2, D', e1, e2, e3⟩ := B_pasts (xs (6 * j + 1)) D M h
    rw [s1, e1, bnd_s, s1, e2, bnd_s, if_pos rfl]
    exact ih D' N2 e3
  refine swi_g ?_ ?_
  · obtain ⟨r, N1, N2, D', e1, e2, e3⟩ := B_still  D M h
    rw [e1, bnd_s, e2, bnd_s, if_pos rfl]
    exact ih D' N2 e3
  refine swi_g ?_ ?_
  · obtain ⟨r, N1, N2, D', e1, e2, e3⟩ := B_knot (xs (6 * j + 1)) D M h
    rw [s1, e1, bnd_s, s1, e2, bnd_s, if_pos rfl]
    exact ih D' N2 e3
  refine swi_g ?_ ?_
  · obtain ⟨r, N1, N2, D', e1, e2, e3⟩ := B_more (xs (6 * j + 1)) D M h
    rw [s1, e1, bnd_s, s1, e2, bnd_s, if_pos rfl]
    exact ih D' N2 e3
  refine swi_g ?_ ?_
  · obtain ⟨r, N1, N2, D', e1, e2, e3⟩ := B_exchange (xs (6 * j + 1)) D M h
    rw [s1, e1, bnd_s, s1, e2, bnd_s, if_pos rfl]
    exact ih D' N2 e3
  refine swi_g ?_ ?_
  · obtain ⟨r, N1, N2, D', e1, e2, e3⟩ := B_loosen  D M h
    rw [e1, bnd_s, e2, bnd_s, if_pos rfl]
    exact ih D' N2 e3
  refine swi_g ?_ ?_
  · obtain ⟨r, N1, N2, D', e1, e2, e3⟩ := B_boldest (xs (6 * j + 1)) D M h
    rw [s1, e1, bnd_s, s1, e2, bnd_s, if_pos rfl]
    exact ih D' N2 e3
  refine swi_g ?_ ?_
  · obtain ⟨r, N1, N2, D', e1, e2, e3⟩ := B_dearest  D M h
    rw [e1, bnd_s, e2, bnd_s, if_pos rfl]
    exact ih D' N2 e3
  refine swi_g ?_ ?_
  · obtain ⟨r, N1, N2, D', e1, e2, e3⟩ := B_odd  D M h
    rw [e1, bnd_s, e2, bnd_s, if_pos rfl]
    exact ih D' N2 e3
  refine swi_g ?_ ?_
  · obtain ⟨r, N1, N2, D', e1, e2, e3⟩ := B_alike (xs (6 * j + 1)) D M h
    rw [s1, e1, bnd_s, s1, e2, bnd_s, if_pos rfl]
    exact ih D' N2 e3
  refine swi_g ?_ ?_
  · obtain ⟨r, N1, N2, D', e1, e2, e3⟩ := B_alone  D M h
    rw [e1, bnd_s, e2, bnd_s, if_pos rfl]
    exact ih D' N2 e3
  refine swi_g ?_ ?_
  · obtain ⟨r, N1, N2, D', e1, e2, e3⟩ := B_burning  D M h
    rw [e1, bnd_s, e2, bnd_s, if_pos rfl]
    exact ih D' N2 e3
  refine swi_g ?_ ?_
  · obtain ⟨r, N1, N2, D', e1, e2, e3⟩ := B_load  D M h
    rw [e1, bnd_s, e2, bnd_s, if_pos rfl]
    exact ih D' N2 e3
  refine swi_g ?_ ?_
  · obtain ⟨r, N1, N2, D', e1, e2, e3⟩ := B_longest  D M h
    rw [e1, bnd_s, e2, bnd_s, if_pos rfl]
    exact ih D' N2 e3
  refine swi_g ?_ ?_
  · obtain ⟨r, N1, N2, D', e1, e2, e3⟩ := B_law (xs (6 * j + 1)) D M h
    rw [s1, e1, bnd_s, s1, e2, bnd_s, if_pos rfl]
    exact ih D' N2 e3
  refine swi_g ?_ ?_
  · obtain ⟨r, N1, N2, D', e1, e2, e3⟩ := B_odds (xs (6 * j + 1)) (xs (6 * j + 2)) D M h
    rw [s1, s2, e1, bnd_s, s1, s2, e2, bnd_s, if_pos rfl]
    exact ih D' N2 e3
  refine swi_g ?_ ?_
  · obtain ⟨r, N1, N2, D', e1, e2, e3⟩ := B_lies (xs (6 * j + 1)) D M h
    rw [s1, e1, bnd_s, s1, e2, bnd_s, if_pos rfl]
    exact ih D' N2 e3
  refine swi_g ?_ ?_
  · rw [s1, s2]
    by_cases hx : xs (6 * j + 2) = 0
    · obtain ⟨r, N1, N2, D', e1, e2, e3⟩ := B_seen (xs (6 * j + 1)) 0 (Or.inl rfl) D M h
      rw [if_pos hx]
      unfold f_Law_law_j1336
      rw [e1, bnd_s, s1, s2, if_pos hx]
      unfold f_Law_law_j1358
      rw [e2, bnd_s, if_pos rfl]
      exact ih D' N2 e3
    · obtain ⟨r, N1, N2, D', e1, e2, e3⟩ := B_seen (xs (6 * j + 1)) 1 (Or.inr rfl) D M h
      rw [if_neg hx]
      unfold f_Law_law_j1336
      rw [e1, bnd_s, s1, s2, if_neg hx]
      unfold f_Law_law_j1358
      rw [e2, bnd_s, if_pos rfl]
      exact ih D' N2 e3
  refine swi_g ?_ ?_
  · obtain ⟨r, N1, N2, D', e1, e2, e3⟩ := B_untell (xs (6 * j + 1)) D M h
    rw [s1, e1, bnd_s, s1, e2, bnd_s, if_pos rfl]
    exact ih D' N2 e3
  refine swi_g ?_ ?_
  · obtain ⟨r, N1, N2, D', e1, e2, e3⟩ := B_later (xs (6 * j + 1)) D M h
    rw [s1, e1, bnd_s, s1, e2, bnd_s, if_pos rfl]
    exact ih D' N2 e3
  refine swi_g ?_ ?_
  · obtain ⟨r, N1, N2, D', e1, e2, e3⟩ := B_fits (xs (6 * j + 1)) D M h
    rw [s1, e1, bnd_s, s1, e2, bnd_s, if_pos rfl]
    exact ih D' N2 e3
  refine swi_g ?_ ?_
  · obtain ⟨r, N1, N2, D', e1, e2, e3⟩ := B_fit (xs (6 * j + 1)) D M h
    rw [s1, e1, bnd_s, s1, e2, bnd_s, if_pos rfl]
    exact ih D' N2 e3
  refine swi_g ?_ ?_
  · obtain ⟨r, N1, N2, D', e1, e2, e3⟩ := B_sure (xs (6 * j + 1)) (xs (6 * j + 2)) D M h
    rw [s1, s2, e1, bnd_s, s1, s2, e2, bnd_s, if_pos rfl]
    exact ih D' N2 e3
  refine swi_g ?_ ?_
  · obtain ⟨r, N1, N2, D', e1, e2, e3⟩ := B_ask (xs (6 * j + 1)) (xs (6 * j + 2)) D M h
    rw [s1, s2, e1, bnd_s, s1, s2, e2, bnd_s, if_pos rfl]
    exact ih D' N2 e3
  refine swi_g ?_ ?_
  · obtain ⟨r, N1, N2, D', e1, e2, e3⟩ := B_image (xs (6 * j + 1)) D M h
    rw [s1, e1, bnd_s, s1, e2, bnd_s, if_pos rfl]
    exact ih D' N2 e3
  refine swi_g ?_ ?_
  · obtain ⟨r, N1, N2, D', e1, e2, e3⟩ := B_back (xs (6 * j + 1)) D M h
    rw [s1, e1, bnd_s, s1, e2, bnd_s, if_pos rfl]
    exact ih D' N2 e3
  refine swi_g ?_ ?_
  · obtain ⟨r, N1, N2, D', e1, e2, e3⟩ := B_about (xs (6 * j + 1)) D M h
    rw [s1, e1, bnd_s, s1, e2, bnd_s, if_pos rfl]
    exact ih D' N2 e3
  exact ih D M h
theorem law_loop {L : Nat} {xs : Nat → Int32} (hL : L ≤ 3072) : ∀ y j D M, Rel D M → 6 * j ≤ L → L < 6 * (j + y) → Gd (f_Law_law_l18 L xs y (nI (6 * j)) M) := by
  intro y
  induction y with
  | zero => intro j D M h h1 h2; omega
  | succ y ih =>
    intro j D M h h1 h2
    show Gd (f_Law_law_b18 L xs (f_Law_law_l18 L xs y) (nI (6 * j)) M)
    by_cases e : 6 * j + 6 ≤ L
    · refine law_step hL e (fun D' M' h' => ?_) h
      rw [nI_lit 6, nI_add, show 6 * j + 6 = 6 * (j + 1) by omega]
      exact ih (j + 1) D' M' h' (by omega) (by omega)
    · unfold f_Law_law_b18
      have hlt : nI L - 6 < nI (6 * j) := by
        by_cases e6 : 6 ≤ L
        · rw [nI_lit 6, pk_sub (by omega)]
          exact nI_lt (by omega) (by omega)
        · have j0 : j = 0 := by omega
          subst j0
          have : ∀ L, L < 6 → nI L - 6 < nI (6 * 0) := by decide +kernel
          exact this L (by omega)
      rw [if_pos hlt]
      exact ⟨M, rfl⟩
theorem law_ok {L : Nat} {xs : Nat → Int32} (hL : L ≤ 3072) : ∃ M', f_Law_law_l18 L xs fu 0 M1 = some (.inl ((), M')) :=
  law_loop hL fu 0 Z0 M1 Rel_M1 (Nat.zero_le _) (by rw [fu_eq]; omega)
