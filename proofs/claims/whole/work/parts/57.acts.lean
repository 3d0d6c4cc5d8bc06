/-! acts: the states change -/
def lPQ (c _k : Nat) : Prop := (8 ≤ c ∧ c ≤ 18) ∨ (23 ≤ c ∧ c ≤ 33)
def WS (c k : Nat) : Prop := lCS c k ∨ lMS c k ∨ lBX c k ∨ scr c k ∨ (19 ≤ c ∧ c ≤ 22) ∨ (34 ≤ c ∧ c ≤ 37)
theorem PL.cq {D : DT} {M M' : AM} {p : Nat} (hp : p = 8 ∨ p = 23) (h : PL D M p) (g : Kp lPQ M M') : PL D M' p := by
  obtain ⟨⟨a1, a2, a3, a4, a5, a6, a7⟩, b, cc, d, e⟩ := h
  refine ⟨⟨?_, ?_, ?_, ?_, ?_, ?_, ?_⟩, fun l hl => ⟨?_, ?_, ?_⟩, fun c hc => ⟨?_, ?_⟩, fun s hs => ?_, fun i hi => ?_⟩ <;> rw [g _ _ (by unfold lPQ; omega)]
  · exact a1
  · exact a2
  · exact a3
  · exact a4
  · exact a5
  · exact a6
  · exact a7
  · exact (b l hl).1
  · exact (b l hl).2.1
  · exact (b l hl).2.2
  · exact (cc _ hc).1
  · exact (cc _ hc).2
  · exact d s hs
  · exact e i hi
/-- the states or the boxes change, and the rest stays -/
theorem Rel.state {D D' : DT} {M M' : AM} (h : Rel D M) (hw : ∀ c k, ¬ WS c k → gI M' c k = gI M c k) (hr : ∀ c k, c ≠ 39 → gR M' c k = gR M c k)
    (e : ∀ a, a ≤ 6 ∨ a = 9 ∨ (52 ≤ a ∧ a ≤ 55) → D' a = D a) (hk : D' 7 0 ≤ D' 7 1 ∧ D' 7 1 ≤ 40) (hs : ∀ j, j ≤ D' 7 1 → okS5 D (10 + j) ∨ okS5 D' (10 + j)) (hss : ∀ j, j ≤ D' 7 1 → okS5 D' (10 + j)) (hb : ∀ b, b < 3 → D' 8 b ≤ 1 ∧ (D' 8 b = 1 → okS5 D' (60 + b)))
    (hcc : CCH D M' (gR M 0 3)) (hC : CST D' M') (hM : MST D' M') (hB : BXS D' M') : Rel D' M' := by
  obtain ⟨h1, h2, h3, h4, h5, h6, h7, h8, h9, h10, h11, h12⟩ := h
  have e3 : gR M' 0 3 = gR M 0 3 := hr 0 3 (by decide)
  have e4 : gR M' 0 4 = gR M 0 4 := hr 0 4 (by decide)
  have g : ∀ (l : Nat → Nat → Prop), (∀ c k, l c k → ¬ WS c k) → Kp l M M' := fun l hl c k q => hw c k (hl c k q)
  have e' : ∀ a, a ≤ 6 → D' a = D a := fun a ha => e a (Or.inl ha)
  have e9 := e 9 (by omega)
  refine ⟨h1.dg e', ?_, ?_, ?_, ?_, (h6.cg (g _ (fun c k q => by unfold lMP at q; unfold WS lCS lMS lBX scr; omega))).dg e', hC, hM, hB, ?_, ?_, ?_⟩
  · obtain ⟨k1, k2, k3, k4, k5⟩ := h2
    refine ⟨hk.1, hk.2, hss, hb, ?_⟩
    rw [e9, e 52 (by omega), e 53 (by omega), e 54 (by omega), e 55 (by omega), e 0 (by omega)]
    exact k5
  · unfold PLN; rw [e3, e4, hw 16 0 (by unfold WS lCS lMS lBX scr; omega), hw 31 0 (by unfold WS lCS lMS lBX scr; omega)]; exact h3
  · rw [e3]; exact (h4.cq h3.or (g _ (fun c k q => by unfold lPQ at q; unfold WS lCS lMS lBX scr; omega))).dg e'
  · rw [e3]; exact hcc.dg e'
  · exact (h10.cg (g _ (fun c k q => by unfold lTP at q; unfold WS lCS lMS lBX scr; omega))).dg (by rw [e9]) (e 52 (by omega))
  · exact (h11.cg (g _ (fun c k q => by unfold lSG at q; unfold WS lCS lMS lBX scr; omega))).dg (by rw [e9]) (by rw [e9]) (e 53 (by omega)) (e 54 (by omega)) (e 55 (by omega))
  · exact (h12.cg (g _ (fun c k q => by unfold lLI at q; unfold WS lCS lMS lBX scr; omega))).dg (by rw [e9])
/-- copying a row -/
def cpy (M : AM) (dst b src a : Nat) : Nat → AM
  | 0 => M
  | k + 1 => sI (cpy M dst b src a k) dst (b + k) (gI (cpy M dst b src a k) src (a + k))
theorem cpy_R (M : AM) (dst b src a : Nat) : ∀ k c q, gR (cpy M dst b src a k) c q = gR M c q := by
  intro k
  induction k with
  | zero => intro c q; rfl
  | succ k ih => intro c q; exact ih c q
theorem cpy_I {M : AM} {dst b src a : Nat} (hd : dst ≠ src ∨ b ≤ a) : ∀ k c q, gI (cpy M dst b src a k) c q = if c = dst ∧ b ≤ q ∧ q < b + k then gI M src (a + q - b) else gI M c q := by
  intro k
  induction k with
  | zero => intro c q; rw [if_neg (by omega)]; rfl
  | succ k ih =>
    intro c q
    show gI (sI _ _ _ _) c q = _
    rw [gI_sI, ih, ih]
    by_cases h : c = dst ∧ q = b + k
    · rw [if_pos h, if_neg (by omega), if_pos (by omega), show a + q - b = a + k by omega]
    · rw [if_neg h]
      by_cases h2 : c = dst ∧ b ≤ q ∧ q < b + k
      · rw [if_pos h2, if_pos (by omega)]
      · rw [if_neg h2, if_neg (by omega)]
/-- two rows exchanged -/
def xch (M : AM) (b : Nat) : Nat → AM
  | 0 => M
  | k + 1 => sI (sI (xch M b k) 124 (b + k) (gI (xch M b k) 123 k)) 123 k (gI (xch M b k) 124 (b + k))
theorem xch_R (M : AM) (b : Nat) : ∀ k c q, gR (xch M b k) c q = gR M c q := by
  intro k
  induction k with
  | zero => intro c q; rfl
  | succ k ih => intro c q; exact ih c q
theorem xch_I (M : AM) (b : Nat) : ∀ k c q, gI (xch M b k) c q = if c = 123 ∧ q < k then gI M 124 (b + q) else if c = 124 ∧ b ≤ q ∧ q < b + k then gI M 123 (q - b) else gI M c q := by
  intro k
  induction k with
  | zero => intro c q; rw [if_neg (by omega), if_neg (by omega)]; rfl
  | succ k ih =>
    intro c q
    show gI (sI (sI _ _ _ _) _ _ _) c q = _
    rw [gI_sI, gI_sI, ih, ih, ih]
    by_cases h : c = 123 ∧ q = k
    · rw [if_pos h, if_neg (by omega), if_neg (by omega), if_pos (by omega), h.2]
    · rw [if_neg h]
      by_cases h1 : c = 124 ∧ q = b + k
      · rw [if_pos h1, if_neg (by omega), if_neg (by omega), if_neg (by omega), if_pos (by omega), show q - b = k by omega]
      · rw [if_neg h1]
        by_cases h2 : c = 123 ∧ q < k
        · rw [if_pos h2, if_pos (by omega)]
        · rw [if_neg h2]
          by_cases h3 : c = 124 ∧ b ≤ q ∧ q < b + k
          · rw [if_pos h3, if_neg (by omega), if_pos (by omega)]
          · rw [if_neg h3, if_neg (by omega), if_neg (by omega)]
theorem exch_ok (M : AM) {b : Nat} (hb : b + 5 ≤ 200) : f_Mo_exchangeAt (nI b) M = some ((), xch M b 5) := by
  unfold f_Mo_exchangeAt
  have key : f_Mo_exchangeAt_l2 (nI b) fu 0 M = some ((), xch M b 5) := for_up (fun z (s : Int32 × AM) => f_Mo_exchangeAt_l2 (nI b) z s.1 s.2) (fun k => (nI k, xch M b k)) 5 _
    (fun k z hk => by
      show f_Mo_exchangeAt_b2 (f_Mo_exchangeAt_l2 (nI b) z) (nI b) (nI k) (xch M b k) = _
      unfold f_Mo_exchangeAt_b2
      rw [nI_lit 5, if_neg (nI_ge hk (by decide)), nI_add, ald_nI (by omega) (by decide), ald_nI (by omega) (by decide), ast_nI (by omega) (by decide), ast_nI (by omega) (by decide), nI_1]
      rfl)
    (fun z => by
      show f_Mo_exchangeAt_b2 (f_Mo_exchangeAt_l2 (nI b) z) (nI b) (nI 5) (xch M b 5) = _
      unfold f_Mo_exchangeAt_b2
      rw [nI_lit 5, if_pos (nI_le (Nat.le_refl _) (by decide))]) 5 0 fu rfl (by rw [fu_eq]; decide)
  rw [bnd_eq key]
/-- a row 7 with a new count -/
def r7 (n m : Nat) : Nat → Nat := fun i => if i = 0 then n else m
theorem B_undo : Both f_C_undo f_Mo_undo := by
  intro D M h
  obtain ⟨ok, hC, hM, hB, hT, hS, hL⟩ := h.parts
  unfold f_C_undo f_Mo_undo f_Acts_takeBack
  have hd := ok.1
  have hk := ok.2.1
  by_cases h0 : D 7 0 = 0
  · refine ⟨0, M, M, D, ?_, ?_, h⟩
    · rw [hC.1, h0, if_neg (by decide)]; rfl
    · rw [hM.1, h0, if_pos (by decide)]
  · obtain ⟨n, hn⟩ : ∃ n, D 7 0 = n + 1 := ⟨D 7 0 - 1, by omega⟩
    have c1 : gI M 38 1 = nI (n + 1) := by rw [← hn]; exact hC.1
    have m1 : gI M 105 52 = nI (n + 1) := by rw [← hn]; exact hM.1
    generalize hM1 : sI M 38 1 (nI n) = M1
    have m2 : gI M1 105 52 = nI (n + 1) := by rw [← hM1]; exact m1
    have m3 : gI M1 105 53 = nI (D 7 1 - D 7 0) := by rw [← hM1]; exact hM.2.1
    generalize hM2 : sI (sI M1 105 52 (nI n)) 105 53 (nI (D 7 1 - n)) = M2
    have s1 : nI (n + 1) - 1 = nI n := by rw [nI_lit 1, pk_sub (by omega)]; rfl
    have e7 : ∀ x, x ≠ 7 → rw1 D 7 (r7 n (D 7 1)) x = D x := fun x hx => rw1_n hx
    have e70 : rw1 D 7 (r7 n (D 7 1)) 7 0 = n := by rw [rw1_s]; rfl
    have e71 : rw1 D 7 (r7 n (D 7 1)) 7 1 = D 7 1 := by rw [rw1_s]; rfl
    refine ⟨1, M1, xch M2 (5 * n) 5, rw1 D 7 (r7 n (D 7 1)), ?_, ?_, ?_⟩
    · rw [c1, if_pos (show (0 : Int32) < nI (n + 1) from nI_lt (a := 0) (by omega) (by omega)), s1, wI_eq, hM1]; rfl
    · rw [m2, if_neg (fun q => by have := (nI_eq (b := 0) (by omega) (by decide)).mp q; omega), wI_eq, s1, wI_eq, show gI (sI M1 105 52 (nI n)) 105 53 = nI (D 7 1 - D 7 0) from m3, nI_1, show D 7 1 - D 7 0 + 1 = D 7 1 - n by omega, hM2, show gI M2 105 52 = nI n by rw [← hM2]; rfl, nI_lit 5, pk_mul, exch_ok _ (by omega), bnd_s]
    · have g1 : ∀ c k, gI (xch M2 (5 * n) 5) c k = if c = 123 ∧ k < 5 then gI M 124 (5 * n + k) else if c = 124 ∧ 5 * n ≤ k ∧ k < 5 * n + 5 then gI M 123 (k - 5 * n) else if c = 105 ∧ k = 53 then nI (D 7 1 - n) else if c = 105 ∧ k = 52 then nI n else if c = 38 ∧ k = 1 then nI n else gI M c k := fun c k => by
        have a1 : ∀ x, gI M2 124 x = gI M 124 x := fun x => by rw [← hM2, ← hM1]; rfl
        have a2 : ∀ x, gI M2 123 x = gI M 123 x := fun x => by rw [← hM2, ← hM1]; rfl
        rw [xch_I, a1, a2, ← hM2, ← hM1]; rfl
      have g2 : ∀ c k, gR (xch M2 (5 * n) 5) c k = gR M c k := fun c k => by rw [xch_R, ← hM2, ← hM1]; rfl
      generalize xch M2 (5 * n) 5 = M' at g1 g2
      refine h.state (fun c k q => ?_) (fun c k _ => g2 c k) (fun a ha => e7 a (by omega)) (by rw [e70, e71]; omega) (fun j hj => Or.inl (ok.2.2.1 j (by rw [e71] at hj; omega))) (fun j hj => (ok.2.2.1 j (by rw [e71] at hj; omega)).dg (e7 0 (by decide)) (e7 _ (by omega))) (fun b hb => ?_) ?_ ?_ ?_ ?_
      · rw [g1, if_neg, if_neg, if_neg, if_neg, if_neg] <;> (intro z; apply q; unfold WS lCS lMS; omega)
      · rw [e7 8 (by decide)]
        exact ⟨(ok.2.2.2.1 b hb).1, fun z => ((ok.2.2.2.1 b hb).2 z).dg (e7 0 (by decide)) (e7 _ (by omega))⟩
      · refine h.2.2.2.2.1.cg h.2.2.1.or (fun c k q => ?_)
        unfold lPL at q
        rw [g1, if_neg (by omega), if_neg (by omega), if_neg (by omega), if_neg (by omega), if_neg (by omega)]
      · refine ⟨?_, ?_, fun j hj => ?_, fun i j hi hj => ?_, fun j i hj hi => ?_⟩
        · rw [g1, e70]; rfl
        · rw [g1, e71]; exact hC.2.1
        · rw [g2]; exact hC.2.2.1 j hj
        · rw [g2, g2]; exact hC.2.2.2.1 i j hi hj
        · rw [e71] at hj
          have hc := hC.2.2.1 j (by omega)
          rw [g2, g1, if_neg (by omega), if_neg (by omega), if_neg (by omega), if_neg (by omega), if_neg (by omega), e7 _ (by omega)]
          exact hC.2.2.2.2 j i hj hi
      · refine ⟨?_, ?_, fun i hi => ?_, fun j i hj hi => ?_, fun j i h1 h2 hi => ?_⟩
        · rw [g1, e70]; rfl
        · rw [g1, e70, e71]; rfl
        · rw [e70, e7 _ (by omega), g1, if_pos (by omega)]
          exact hM.2.2.2.1 n i (by omega) hi
        · rw [e70] at hj
          rw [g1, if_neg (by omega), if_neg (by omega), if_neg (by omega), if_neg (by omega), if_neg (by omega), e7 _ (by omega)]
          exact hM.2.2.2.1 j i (by omega) hi
        · rw [e70] at h1
          rw [e71] at h2
          rw [g1, if_neg (by omega), e7 _ (by omega)]
          by_cases hjn : j = n
          · subst hjn
            rw [if_pos (by omega), show 5 * j + i - 5 * j = i by omega, hM.2.2.1 i hi, hn]; rfl
          · rw [if_neg (by omega), if_neg (by omega), if_neg (by omega), if_neg (by omega)]
            exact hM.2.2.2.2 j i (by omega) h2 hi
      · refine (hB.cg (fun c k q => ?_) (fun j => g2 82 j)).dg (e7 8 (by decide)) (fun b hb => e7 _ (by omega))
        unfold lBX at q
        rw [g1, if_neg (by omega), if_neg (by omega), if_neg (by omega), if_neg (by omega), if_neg (by omega)]
