/-- a new act: the state is doubled, the oldest goes if there are too many -/
def opn (D : DT) : DT := if D 7 0 < 40 then rw1 (rw1 D 7 (r7 (D 7 0 + 1) (D 7 0 + 1))) (10 + (D 7 0 + 1)) (D (10 + D 7 0)) else fun a => if a = 7 then r7 40 40 else if 10 ≤ a ∧ a < 50 then D (a + 1) else D a
theorem opn_o (D : DT) {a : Nat} (h : a ≤ 6 ∨ a = 8 ∨ a = 9 ∨ 52 ≤ a) (hd : D 7 0 ≤ 40) : opn D a = D a := by
  unfold opn
  by_cases hn : D 7 0 < 40
  · rw [if_pos hn, rw1_n (by omega), rw1_n (by omega)]
  · rw [if_neg hn, if_neg (by omega), if_neg (by omega)]
def setc (D : DT) (s : Nat → Nat) : DT := rw1 D (10 + D 7 0) s
theorem setc_7 (D : DT) (s : Nat → Nat) : setc D s 7 = D 7 := rw1_n (by omega)
theorem setc_c (D : DT) (s : Nat → Nat) : setc D s (10 + D 7 0) = s := rw1_s _ _ _
theorem setc_n {D : DT} {s : Nat → Nat} {a : Nat} (h : a ≠ 10 + D 7 0) : setc D s a = D a := rw1_n h
theorem CST.setc {D : DT} {M M' : AM} {s : Nat → Nat} (h : CST D M) (hk : D 7 0 ≤ D 7 1 ∧ D 7 1 ≤ 40) (hi : ∀ i, i < 5 → gI M' (gR M 39 (D 7 0)) i = nI (s i)) (ho : ∀ c k, 38 ≤ c → c ≤ 80 → c ≠ gR M 39 (D 7 0) → gI M' c k = gI M c k) (hr : ∀ j, gR M' 39 j = gR M 39 j) : CST (setc D s) M' := by
  obtain ⟨a1, a2, a3, a4, a5⟩ := h
  have hc := a3 (D 7 0) (by omega)
  refine ⟨?_, ?_, fun j hj => ?_, fun i j hi hj => ?_, fun j i hj hi' => ?_⟩
  · rw [setc_7, ho _ _ (by omega) (by omega) (by omega)]; exact a1
  · rw [setc_7, ho _ _ (by omega) (by omega) (by omega)]; exact a2
  · rw [hr]; exact a3 j hj
  · rw [hr, hr]; exact a4 i j hi hj
  · rw [setc_7] at hj
    rw [hr]
    by_cases hjn : j = D 7 0
    · rw [hjn, setc_c]; exact hi i hi'
    · have hcj := a3 j (by omega)
      rw [setc_n (by omega), ho _ _ (by omega) (by omega) (fun e => hjn (a4 _ _ (by omega) (by omega) e))]
      exact a5 j i hj hi'
theorem MST.setc {D : DT} {M M' : AM} {s : Nat → Nat} (h : MST D M) (hi : ∀ i, i < 5 → gI M' 123 i = nI (s i)) (ho : ∀ c k, lMS c k → c ≠ 123 → gI M' c k = gI M c k) : MST (setc D s) M' := by
  obtain ⟨a1, a2, a3, a4, a5⟩ := h
  refine ⟨?_, ?_, fun i hi' => ?_, fun j i hj hi' => ?_, fun j i h1 h2 hi' => ?_⟩
  · rw [setc_7, ho _ _ (by unfold lMS; omega) (by omega)]; exact a1
  · rw [setc_7, ho _ _ (by unfold lMS; omega) (by omega)]; exact a2
  · rw [setc_7, setc_c]; exact hi i hi'
  · rw [setc_7] at hj
    rw [setc_n (by omega), ho _ _ (by unfold lMS; omega) (by omega)]; exact a4 j i hj hi'
  · rw [setc_7] at h1 h2
    rw [setc_n (by omega), ho _ _ (by unfold lMS; omega) (by omega)]; exact a5 j i h1 h2 hi'
theorem opn_okS5 {D : DT} (hk : D 7 0 ≤ D 7 1 ∧ D 7 1 ≤ 40) (h : ∀ j, j ≤ D 7 1 → okS5 D (10 + j)) : ∀ j, j ≤ opn D 7 1 → okS5 (opn D) (10 + j) := by
  intro j hj
  have e0 : opn D 0 = D 0 := opn_o D (by omega) (by omega)
  unfold opn at hj
  by_cases hn : D 7 0 < 40
  · rw [if_pos hn, rw1_n (by omega), rw1_s] at hj
    have hj' : j ≤ D 7 0 + 1 := hj
    by_cases hjn : j = D 7 0 + 1
    · have e1 : opn D (10 + j) = D (10 + D 7 0) := by unfold opn; rw [if_pos hn, hjn, rw1_s]
      have := h (D 7 0) (by omega)
      unfold okS5 at this ⊢
      rw [e1, e0]; exact this
    · have e1 : opn D (10 + j) = D (10 + j) := by unfold opn; rw [if_pos hn, rw1_n (by omega), rw1_n (by omega)]
      exact (h j (by omega)).dg e0 e1
  · rw [if_neg hn] at hj
    have hj' : j ≤ 40 := hj
    by_cases hjn : j = 40
    · have e1 : opn D (10 + j) = D (10 + j) := by unfold opn; rw [if_neg hn, if_neg (by omega), if_neg (by omega)]
      exact (h j (by omega)).dg e0 e1
    · have e1 : opn D (10 + j) = D (10 + j + 1) := by unfold opn; rw [if_neg hn, if_neg (by omega), if_pos (by omega)]
      have := h (j + 1) (by omega)
      unfold okS5 at this ⊢
      rw [e1, e0]; exact this
theorem opn_70 {D : DT} : opn D 7 0 = if D 7 0 < 40 then D 7 0 + 1 else 40 := by
  unfold opn
  by_cases hn : D 7 0 < 40
  · rw [if_pos hn, if_pos hn, rw1_n (by omega), rw1_s]; rfl
  · rw [if_neg hn, if_neg hn]; rfl
theorem opn_71 {D : DT} : opn D 7 1 = if D 7 0 < 40 then D 7 0 + 1 else 40 := by
  unfold opn
  by_cases hn : D 7 0 < 40
  · rw [if_pos hn, if_pos hn, rw1_n (by omega), rw1_s]; rfl
  · rw [if_neg hn, if_neg hn]; rfl
theorem opn_le {D : DT} (h : D 7 0 ≤ 40) : opn D 7 0 ≤ opn D 7 1 ∧ opn D 7 1 ≤ 40 := by
  rw [opn_70, opn_71]; split <;> omega
theorem opn_cur {D : DT} (h : D 7 0 ≤ 40) : opn D (10 + opn D 7 0) = D (10 + D 7 0) := by
  rw [opn_70]
  unfold opn
  by_cases hn : D 7 0 < 40
  · rw [if_pos hn, if_pos hn, rw1_s]
  · rw [if_neg hn, if_neg hn, show D 7 0 = 40 by omega]; rfl
/-- one act done on both sides: the states belong together again -/
theorem Rel.act {D : DT} {M M1 M2 : AM} (h : Rel D M) (s : Nat → Nat) (hs : s 0 < 2 ^ D 0 0 ∧ s 1 < 2 ^ D 0 1 ∧ s 3 ≤ 999 ∧ s 4 < 1000)
    (hC : CST (setc (opn D) s) M1) (f1 : ∀ c k, ¬ (lCS c k ∨ scr c k ∨ (19 ≤ c ∧ c ≤ 22) ∨ (34 ≤ c ∧ c ≤ 37)) → gI M1 c k = gI M c k) (r1 : ∀ c k, c ≠ 39 → gR M1 c k = gR M c k)
    (hM : MST (setc (opn D) s) M2) (f2 : ∀ c k, ¬ (lMS c k ∨ scr c k) → gI M2 c k = gI M1 c k) (r2 : ∀ c k, gR M2 c k = gR M1 c k) (hcc : CCH D M1 (gR M 0 3)) : Rel (setc (opn D) s) M2 := by
  obtain ⟨ok, -, -, hB, -, -, -⟩ := h.parts
  have hd : D 7 0 ≤ 40 := by have := ok.1; have := ok.2.1; omega
  have hl := opn_le hd
  have e : ∀ a, a ≤ 6 ∨ a = 8 ∨ a = 9 ∨ 52 ≤ a → setc (opn D) s a = D a := fun a ha => by rw [setc_n (by omega), opn_o D ha hd]
  have e0 : setc (opn D) s 0 = D 0 := e 0 (by omega)
  have hss : ∀ j, j ≤ setc (opn D) s 7 1 → okS5 (setc (opn D) s) (10 + j) := fun j hj => by
    rw [setc_7] at hj
    by_cases hjn : j = opn D 7 0
    · unfold okS5; rw [hjn, setc_c, e0]; exact hs
    · exact (opn_okS5 ⟨ok.1, ok.2.1⟩ ok.2.2.1 j hj).dg (setc_n (by omega)) (setc_n (by omega))
  refine h.state (fun c k q => ?_) (fun c k q => (r2 c k).trans (r1 c k q)) (fun a ha => e a (by omega)) (by rw [setc_7]; exact hl) (fun j hj => Or.inr (hss j hj)) hss (fun b hb => ?_) ?_ ?_ hM ?_
  · rw [f2 c k (fun z => q (by unfold WS; rcases z with z | z <;> simp [z])), f1 c k (fun z => q (by unfold WS; rcases z with z | z | z | z <;> simp [z]))]
  · rw [e 8 (by omega)]
    exact ⟨(ok.2.2.2.1 b hb).1, fun z => ((ok.2.2.2.1 b hb).2 z).dg e0 (e _ (by omega))⟩
  · refine hcc.cg h.2.2.1.or (fun c k q => f2 c k ?_)
    unfold lPL at q; unfold lMS scr; omega
  · refine hC.cg (fun c k q => f2 c k ?_) (fun j => r2 39 j) (by rw [setc_7]; exact hl.2)
    unfold lCS at q; unfold lMS scr; omega
  · refine (hB.cg (fun c k q => ?_) (fun j => (r2 82 j).trans (r1 82 j (by decide)))).dg (e 8 (by omega)) (fun b hb => e _ (by omega))
    rw [f2 c k (by unfold lBX at q; unfold lMS scr; omega), f1 c k (by unfold lBX at q; unfold lCS scr; omega)]
theorem become_ok {M : AM} {d s : Nat} (h : d ≠ s) : ∃ M', f_State_become d s M = some ((), M') ∧ (∀ c k, gI M' c k = if c = d ∧ k < 5 then gI M s k else gI M c k) ∧ ∀ c k, gR M' c k = gR M c k := by
  have hn : ∀ k l : Nat, ¬ (s = d ∧ k = l) := fun k l z => h z.1.symm
  refine ⟨_, rfl, fun c k => ?_, fun c k => rfl⟩
  simp only [gI_sI, if_neg (hn _ _)]
  by_cases hc : c = d
  · by_cases h5 : k < 5
    · obtain rfl | rfl | rfl | rfl | rfl : k = 0 ∨ k = 1 ∨ k = 2 ∨ k = 3 ∨ k = 4 := by omega
      all_goals simp [hc]
    · rw [if_neg (by omega), if_neg (by omega), if_neg (by omega), if_neg (by omega), if_neg (by omega), if_neg (by omega)]
  · rw [if_neg (by omega), if_neg (by omega), if_neg (by omega), if_neg (by omega), if_neg (by omega), if_neg (by omega)]
theorem open13_ok {M : AM} {n : Nat} (hn : n < 40) (h1 : gI M 38 1 = nI n) (hr : ∀ j, j ≤ 40 → 40 ≤ gR M 39 j ∧ gR M 39 j ≤ 80) (hi : ∀ i j, i ≤ 40 → j ≤ 40 → gR M 39 i = gR M 39 j → i = j) : ∃ M', f_Acts_open_j13 M = some (gR M 39 (n + 1), M') ∧ (∀ c k, gI M' c k = if c = gR M 39 (n + 1) ∧ k < 5 then gI M (gR M 39 n) k else if c = 38 ∧ (k = 1 ∨ k = 2) then nI (n + 1) else gI M c k) ∧ ∀ c k, gR M' c k = gR M c k := by
  have hne : gR M 39 (n + 1) ≠ gR M 39 n := fun e => by have := hi _ _ (by omega) (by omega) e; omega
  have hc1 := hr n (by omega)
  have hc2 := hr (n + 1) (by omega)
  generalize hM2 : sI (sI M 38 1 (nI (n + 1))) 38 2 (nI (n + 1)) = M2
  have r2 : ∀ c k, gR M2 c k = gR M c k := fun c k => by rw [← hM2]; rfl
  have i2 : ∀ c k, gI M2 c k = if c = 38 ∧ (k = 1 ∨ k = 2) then nI (n + 1) else gI M c k := fun c k => by
    rw [← hM2]
    simp only [gI_sI]
    by_cases q : c = 38 ∧ (k = 1 ∨ k = 2)
    · rw [if_pos q]
      by_cases q2 : c = 38 ∧ k = 2
      · rw [if_pos q2]
      · rw [if_neg q2, if_pos (by omega)]
    · rw [if_neg q, if_neg (by omega), if_neg (by omega)]
  obtain ⟨M3, b1, b2, b3⟩ := become_ok (M := M2) hne
  refine ⟨M3, ?_, fun c k => ?_, fun c k => (b3 c k).trans (r2 c k)⟩
  · unfold f_Acts_open_j13
    rw [h1, rald_nI (by omega) (by decide) (kd_st hc1), wI_eq, nI_1, wI_eq, show gI (sI M 38 1 (nI (n + 1))) 38 1 = nI (n + 1) from rfl, hM2, show gI M2 38 1 = nI (n + 1) by rw [i2]; rfl, rald_nI (by omega) (by decide) (by rw [r2]; exact kd_st hc2), r2, b1, bnd_s, b2, if_neg (by omega), i2, if_pos (by omega), rald_nI (by omega) (by decide) (by rw [b3, r2]; exact kd_st hc2), b3, r2]
  · rw [b2, i2, i2, if_neg (by omega : ¬ (gR M 39 n = 38 ∧ (k = 1 ∨ k = 2)))]
/-- references shifted by one -/
def shR (M : AM) : Nat → AM
  | 0 => M
  | k + 1 => sR (shR M k) 39 k (gR (shR M k) 39 (k + 1))
theorem shR_I (M : AM) : ∀ k c q, gI (shR M k) c q = gI M c q := by
  intro k
  induction k with
  | zero => intro c q; rfl
  | succ k ih => intro c q; exact ih c q
theorem shR_R (M : AM) : ∀ k c q, gR (shR M k) c q = if c = 39 ∧ q < k then gR M 39 (q + 1) else gR M c q := by
  intro k
  induction k with
  | zero => intro c q; rw [if_neg (by omega)]; rfl
  | succ k ih =>
    intro c q
    show gR (sR _ _ _ _) c q = _
    rw [gR_sR, ih, ih]
    by_cases h : c = 39 ∧ q = k
    · rw [if_pos h, if_neg (by omega), if_pos (by omega), h.2]
    · rw [if_neg h]
      by_cases h2 : c = 39 ∧ q < k
      · rw [if_pos h2, if_pos (by omega)]
      · rw [if_neg h2, if_neg (by omega)]
theorem dropL_ok {M : AM} (x : Nat) (hr : ∀ j, j ≤ 40 → 40 ≤ gR M 39 j ∧ gR M 39 j ≤ 80) : f_Acts_dropOldest_l9 x fu 0 M = some ((), shR M 40) :=
  for_up (fun z (s : Int32 × AM) => f_Acts_dropOldest_l9 x z s.1 s.2) (fun k => (nI k, shR M k)) 40 _
    (fun k z hk => by
      show f_Acts_dropOldest_b9 (f_Acts_dropOldest_l9 x z) x (nI k) (shR M k) = _
      unfold f_Acts_dropOldest_b9
      rw [nI_lit 40, if_neg (nI_ge hk (by decide)), nI_1, rald_nI (by omega) (by decide) (by rw [shR_R, if_neg (by omega)]; exact kd_st (hr _ (by omega))), rast_nI (by omega) (by decide)]
      rfl)
    (fun z => by
      show f_Acts_dropOldest_b9 (f_Acts_dropOldest_l9 x z) x (nI 40) (shR M 40) = _
      unfold f_Acts_dropOldest_b9
      rw [nI_lit 40, if_pos (nI_le (Nat.le_refl _) (by decide))]) 40 0 fu rfl (by rw [fu_eq]; decide)
theorem open_ok {D : DT} {M : AM} (hC : CST D M) (hk : D 7 0 ≤ D 7 1 ∧ D 7 1 ≤ 40) : ∃ M1, f_Acts_open M = some (gR M1 39 (opn D 7 0), M1) ∧ CST (opn D) M1 ∧ (∀ c k, ¬ lCS c k → gI M1 c k = gI M c k) ∧ ∀ c k, c ≠ 39 → gR M1 c k = gR M c k := by
  obtain ⟨a1, a2, a3, a4, a5⟩ := hC
  unfold f_Acts_open
  by_cases hn : D 7 0 < 40
  · obtain ⟨M', o1, o2, o3⟩ := open13_ok hn a1 a3 a4
    have e70 : opn D 7 0 = D 7 0 + 1 := by rw [opn_70, if_pos hn]
    have e71 : opn D 7 1 = D 7 0 + 1 := by rw [opn_71, if_pos hn]
    have hc := a3 (D 7 0 + 1) (by omega)
    refine ⟨M', ?_, ⟨?_, ?_, fun j hj => ?_, fun i j hi hj => ?_, fun j i hj hi => ?_⟩, fun c k q => ?_, fun c k _ => o3 c k⟩
    · rw [a1, nI_lit 40, if_pos (nI_lt hn (by decide)), o1, e70, o3]
    · rw [e70, o2, if_neg (by omega), if_pos (by omega)]
    · rw [e71, o2, if_neg (by omega), if_pos (by omega)]
    · rw [o3]; exact a3 j hj
    · rw [o3, o3]; exact a4 i j hi hj
    · rw [e71] at hj
      rw [o3, o2]
      by_cases hjn : j = D 7 0 + 1
      · rw [if_pos ⟨by rw [hjn], hi⟩, a5 _ i hk.1 hi]
        congr 1
        unfold opn
        rw [if_pos hn, hjn, rw1_s]
      · have hcj := a3 j (by omega)
        rw [if_neg (fun z => hjn (a4 _ _ (by omega) (by omega) z.1)), if_neg (by omega), a5 j i (by omega) hi]
        congr 1
        unfold opn
        rw [if_pos hn, rw1_n (by omega), rw1_n (by omega)]
    · rw [o2, if_neg (fun z => q (by unfold lCS; omega)), if_neg (fun z => q (by unfold lCS; omega))]
  · have h40 : D 7 0 = 40 := by omega
    have e70 : opn D 7 0 = 40 := by rw [opn_70, if_neg hn]
    have e71 : opn D 7 1 = 40 := by rw [opn_71, if_neg hn]
    generalize hM3 : sI (sR (shR M 40) 39 40 (gR M 39 0)) 38 1 (nI 39) = M3
    have hdrop : f_Acts_dropOldest M = some ((), M3) := by
      unfold f_Acts_dropOldest
      rw [nI_lit 0, rald_nI (by omega) (by decide) (kd_st (a3 0 (by omega))), nI_0, dropL_ok _ a3, bnd_s, nI_lit 40, rast_nI (by omega) (by decide), wI_eq, ← hM3]
      rfl
    have r3 : ∀ c k, gR M3 c k = if c = 39 ∧ k = 40 then gR M 39 0 else if c = 39 ∧ k < 40 then gR M 39 (k + 1) else gR M c k := fun c k => by
      rw [← hM3, gR_sI, gR_sR, shR_R]
    have i3 : ∀ c k, gI M3 c k = if c = 38 ∧ k = 1 then nI 39 else gI M c k := fun c k => by
      rw [← hM3, gI_sI, gI_sR, shR_I]
    have rr : ∀ j, j ≤ 40 → gR M3 39 j = gR M 39 (if j = 40 then 0 else j + 1) := fun j hj => by
      rw [r3]
      by_cases h4 : j = 40
      · rw [if_pos (by omega), if_pos h4]
      · rw [if_neg (by omega), if_pos (by omega), if_neg h4]
    have b3 : ∀ j, j ≤ 40 → 40 ≤ gR M3 39 j ∧ gR M3 39 j ≤ 80 := fun j hj => by
      rw [rr j hj]; split
      · exact a3 0 (by omega)
      · exact a3 (j + 1) (by omega)
    have b4 : ∀ i j, i ≤ 40 → j ≤ 40 → gR M3 39 i = gR M3 39 j → i = j := fun i j hi hj q => by
      rw [rr i hi, rr j hj] at q
      have := a4 _ _ (by split <;> omega) (by split <;> omega) q
      split at this <;> split at this <;> omega
    obtain ⟨M', o1, o2, o3⟩ := open13_ok (n := 39) (by omega) (by rw [i3]; rfl) b3 b4
    have hc := b3 (39 + 1) (by omega)
    refine ⟨M', ?_, ⟨?_, ?_, fun j hj => ?_, fun i j hi hj => ?_, fun j i hj hi => ?_⟩, fun c k q => ?_, fun c k q => ?_⟩
    · rw [a1, nI_lit 40, if_neg (nI_nlt (by omega) (by omega)), hdrop, bnd_s, o1, e70, o3]
    · rw [e70, o2, if_neg (by omega), if_pos (by omega)]
    · rw [e71, o2, if_neg (by omega), if_pos (by omega)]
    · rw [o3]; exact b3 j hj
    · rw [o3, o3]; exact b4 i j hi hj
    · rw [e71] at hj
      rw [o3, o2]
      have hi3 : ∀ c k, 40 ≤ c → gI M3 c k = gI M c k := fun c k hc => by rw [i3, if_neg (by omega)]
      by_cases hjn : j = 40
      · rw [if_pos ⟨by rw [hjn], hi⟩, hi3 _ _ (b3 39 (by omega)).1, rr 39 (by omega), if_neg (by omega), a5 40 i (by omega) hi]
        congr 1
        unfold opn
        rw [if_neg hn, hjn, if_neg (by omega), if_neg (by omega)]
      · have hcj := b3 j (by omega)
        rw [if_neg (fun z => hjn (b4 _ _ (by omega) (by omega) z.1)), if_neg (by omega), hi3 _ _ hcj.1, rr j hj, if_neg hjn, a5 (j + 1) i (by omega) hi]
        congr 1
        unfold opn
        rw [if_neg hn, if_neg (by omega), if_pos (by omega)]
        rfl
    · rw [o2, if_neg (fun z => q (by unfold lCS; omega)), if_neg (fun z => q (by unfold lCS; omega)), i3, if_neg (fun z => q (by unfold lCS; omega))]
    · rw [o3, r3, if_neg (by omega), if_neg (by omega)]
