/-! loft -/
theorem PL.c1 {D : DT} {M M' : AM} {p : Nat} (h : PL D M p) (g : ∀ c k, p ≤ c → c ≤ p + 14 → gI M' c k = gI M c k) : PL D M' p := by
  obtain ⟨⟨a1, a2, a3, a4, a5, a6, a7⟩, b, cc, d, e⟩ := h
  refine ⟨⟨?_, ?_, ?_, ?_, ?_, ?_, ?_⟩, fun l hl => ⟨?_, ?_, ?_⟩, fun c hc => ⟨?_, ?_⟩, fun s hs => ?_, fun i hi => ?_⟩ <;> rw [g _ _ (by omega) (by omega)]
  · exact a1
  · exact a2
  · exact a3
  · exact a4
  · exact a5
  · exact a6
  · exact a7
  · exact (b l hl).1
  · exact (b l hl).2.1
  · exact (b l hl).2.2
  · exact (cc _ hc).1
  · exact (cc _ hc).2
  · exact d s hs
  · exact e i hi
theorem CCH.c1 {D : DT} {M M' : AM} {p : Nat} (h : CCH D M p) (g : ∀ c k, p ≤ c → c ≤ p + 14 → gI M' c k = gI M c k) : CCH D M' p := by
  intro l lit near h1 h2 h3 night
  rw [g (p + 13) _ (by omega) (by omega), g (p + 14) _ (by omega) (by omega)]
  exact h l lit near h1 h2 h3 night
theorem CCH.none {D : DT} {M : AM} {p : Nat} (h0 : D 0 0 ≤ 8) (h : ∀ k, k < 128 → gI M (p + 13) k = -1) : CCH D M p := by
  intro l lit near h1 h2 h3 night hn hl
  rw [h _ (by omega)] at hn
  exact absurd hn.symm (nI_neg1 hl)
/-- what the class holds behind a sound text -/
def SND (E : DT) (M K : AM) : Prop := PLN K ∧ PL E K (gR K 0 3) ∧ (∀ k, k < 128 → gI K (gR K 0 3 + 13) k = -1) ∧ (gI K 38 1 = 0 ∧ gI K 38 2 = 0 ∧ (∀ j, j ≤ 40 → 40 ≤ gR K 39 j ∧ gR K 39 j ≤ 80) ∧ (∀ i j, i ≤ 40 → j ≤ 40 → gR K 39 i = gR K 39 j → i = j) ∧ ∀ i, i < 5 → gI K (gR K 39 0) i = (if i = 0 then nI (E 0 2) else if i = 4 then nI (E 73 0) else 0)) ∧ (gI K 0 8 = 0 ∧ ∀ b, gR K 82 b = gR M 82 b) ∧ (gI K 1 1 = 0 ∧ gI K 0 13 = 0 ∧ gI K 0 14 = -1) ∧ (gI K 99 6 = 0 ∧ gI K 99 7 = gI M 99 7 ∧ gI K 92 7 = 0)
theorem begin_ok {M : AM} {s p : Nat} (h : ¬ p = s) : ∃ M', f_State_begin s p M = some ((), M') ∧ (∀ c k, gR M' c k = gR M c k) ∧ (∀ c k, ¬ c = s → gI M' c k = gI M c k) ∧ (∀ i, i < 5 → gI M' s i = if i = 0 then gI M p 1 else if i = 4 then gI M p 16 else 0) := by
  unfold f_State_begin
  simp only [wI_eq]
  refine ⟨_, rfl, fun _ _ => rfl, fun c k q => ?_, fun i hi => ?_⟩
  · rw [gI_sI, if_neg (fun e => q e.1), gI_sI, if_neg (fun e => q e.1), gI_sI, if_neg (fun e => q e.1), gI_sI, if_neg (fun e => q e.1), gI_sI, if_neg (fun e => q e.1)]
  · have e16 : gI (sI (sI (sI (sI M s 0 (gI M p 1)) s 1 0) s 2 0) s 3 0) p 16 = gI M p 16 := by
      rw [gI_sI, if_neg (fun e => h e.1), gI_sI, if_neg (fun e => h e.1), gI_sI, if_neg (fun e => h e.1), gI_sI, if_neg (fun e => h e.1)]
    rw [e16, gI_sI, gI_sI, gI_sI, gI_sI, gI_sI]
    rcases (show i = 0 ∨ i = 1 ∨ i = 2 ∨ i = 3 ∨ i = 4 by omega) with rfl | rfl | rfl | rfl | rfl
    · rw [if_neg (by omega), if_neg (by omega), if_neg (by omega), if_neg (by omega), if_pos ⟨rfl, rfl⟩, if_pos rfl]
    · rw [if_neg (by omega), if_neg (by omega), if_neg (by omega), if_pos ⟨rfl, rfl⟩, if_neg (by omega), if_neg (by omega)]
    · rw [if_neg (by omega), if_neg (by omega), if_pos ⟨rfl, rfl⟩, if_neg (by omega), if_neg (by omega)]
    · rw [if_neg (by omega), if_pos ⟨rfl, rfl⟩, if_neg (by omega), if_neg (by omega)]
    · rw [if_pos ⟨rfl, rfl⟩, if_neg (by omega), if_pos rfl]
/-- the class, behind its reading -/
theorem takeC {D E : DT} {M M6 : AM} (h : Rel D M) (hr : ∀ c k, ¬ (c = 7 ∧ k = 1) → gR M6 c k = gR M c k) (hg : ∀ c k, ¬ (wC (gR M 0 4) c ∨ c = gR M 0 4 + 8) → ¬ (c = 1 ∧ k = 1) → gI M6 c k = gI M c k) (h11 : gI M6 1 1 = 0) (h8 : gI M6 (gR M 0 4 + 8) 0 = 0) (h74 : gI M6 7 4 = 0) (h75 : gI M6 7 5 = -1) (hP : PL E M6 (gR M 0 4)) (h16 : gI M6 (gR M 0 4) 16 = nI (E 73 0)) (h13 : ∀ k, k < 128 → gI M6 (gR M 0 4 + 13) k = -1) : ∃ K, wI M6 0 13 (gI M6 7 4) (fun M7 => wI M7 0 14 (gI M7 7 5) (fun M8 => if (1 : Int32) = 0 then some ((-1), M8) else ckK (gR M8 0 3) 5 (ckK (gR M8 0 4) 5 (wR M8 0 3 (gR M8 0 4) (fun M11 => wR M11 0 4 (gR M8 0 3) (fun M12 => bnd (f_Acts_current  M12) (fun r13 M14 => ckK (gR M14 0 3) 5 (bnd (f_State_begin r13 (gR M14 0 3) M14) (fun r16 M17 => bnd (f_Acts_forget  M17) (fun r18 M19 => bnd (f_Sight_forget  M19) (fun r20 M21 => bnd (f_Paths_clearRow  M21) (fun r22 M23 => wI M23 0 8 0 (fun M24 => ckK (gR M24 0 3) 5 (some (gI M24 (gR M24 0 3) 0, M24))))))))))))))) = some (nI (E 0 0), K) ∧ (∀ c k, 105 ≤ c → gI K c k = gI M6 c k) ∧ SND E M K := by
  obtain ⟨ok, hC, hM, hB, hT, hS, hL⟩ := h.parts
  obtain ⟨pp, z16, z31⟩ := h.2.2.1
  have hq5 : kd0 (gR M 0 3) = 5 := h.2.2.1.kd
  have hcell := h.cell
  have hle := h.le40
  have e03 : gR M6 0 3 = gR M 0 3 := hr 0 3 (by omega)
  have e04 : gR M6 0 4 = gR M 0 4 := hr 0 4 (by omega)
  generalize hq : gR M 0 3 = q at *
  generalize hpe : gR M 0 4 = p at *
  have hp : p = 8 ∨ p = 23 := by omega
  have hpq : (p = 8 ∧ q = 23) ∨ (p = 23 ∧ q = 8) := by omega
  generalize hM8 : sI (sI M6 0 13 0) 0 14 (-1) = M8
  have i8 : ∀ c k, ¬ (c = 0 ∧ (k = 13 ∨ k = 14)) → gI M8 c k = gI M6 c k := fun c k x => by rw [← hM8, gI_sI, if_neg (by omega), gI_sI, if_neg (by omega)]
  have r8 : ∀ c k, gR M8 c k = gR M6 c k := fun c k => by rw [← hM8]; rfl
  generalize hM12 : sR (sR M8 0 3 p) 0 4 q = M12
  have i12 : ∀ c k, gI M12 c k = gI M8 c k := fun c k => by rw [← hM12]; rfl
  have r12 : ∀ c k, ¬ (c = 0 ∧ (k = 3 ∨ k = 4)) → gR M12 c k = gR M6 c k := fun c k x => by rw [← hM12, gR_sR, if_neg (by omega), gR_sR, if_neg (by omega), r8]
  have r123 : gR M12 0 3 = p := by rw [← hM12]; rfl
  have r124 : gR M12 0 4 = q := by rw [← hM12]; rfl
  have r39 : ∀ j, gR M12 39 j = gR M 39 j := fun j => (r12 39 j (by omega)).trans (hr 39 j (by omega))
  have w38 : ∀ k, gI M12 38 k = gI M 38 k := fun k => by rw [i12, i8 _ _ (by omega), hg _ _ (by unfold wC; omega) (by omega)]
  generalize hs : gR M 39 (D 7 0) = s at *
  obtain ⟨M17, b1, b2, b3, b4⟩ := begin_ok (M := M12) (s := s) (p := p) (by omega)
  obtain ⟨M19, f1, f2, f3⟩ := forget_ok (M := M17) (n := D 7 0) hle (by rw [b3 _ _ (by omega), w38]; exact hC.1) (fun j hj => by rw [b2, r39]; exact hC.2.2.1 j hj)
  generalize hM24 : sI (sI (sI M19 99 6 0) 92 7 0) 0 8 0 = M24
  have i24 : ∀ c k, ¬ (c = 0 ∧ k = 8) → ¬ (c = 92 ∧ k = 7) → ¬ (c = 99 ∧ k = 6) → ¬ (c = 38 ∧ (k = 1 ∨ k = 2)) → gI M24 c k = gI M17 c k := fun c k x1 x2 x3 x4 => by
    rw [← hM24, gI_sI, if_neg x1, gI_sI, if_neg x2, gI_sI, if_neg x3, f2, if_neg x4]
  have i24' : ∀ c k, ¬ (c = 0 ∧ k = 8) → ¬ (c = 92 ∧ k = 7) → ¬ (c = 99 ∧ k = 6) → ¬ (c = 38 ∧ (k = 1 ∨ k = 2)) → ¬ c = s → ¬ (c = 0 ∧ (k = 13 ∨ k = 14)) → gI M24 c k = gI M6 c k := fun c k x1 x2 x3 x4 x5 x6 => by
    rw [i24 c k x1 x2 x3 x4, b3 c k x5, i12, i8 c k x6]
  have r24 : ∀ c k, gR M24 c k = if c = 39 ∧ k = 0 then gR M 39 (D 7 0) else if c = 39 ∧ k = D 7 0 then gR M 39 0 else gR M12 c k := fun c k => by
    rw [← hM24]
    show gR M19 c k = _
    rw [f3, b2, b2, b2, r39, r39]
  have r243 : gR M24 0 3 = p := by rw [r24, if_neg (by omega), if_neg (by omega)]; exact r123
  have r244 : gR M24 0 4 = q := by rw [r24, if_neg (by omega), if_neg (by omega)]; exact r124
  have r2439 : ∀ j, gR M24 39 j = if j = 0 then s else if j = D 7 0 then gR M 39 0 else gR M 39 j := fun j => by
    rw [r24, hs]
    by_cases j0 : j = 0
    · rw [if_pos ⟨rfl, j0⟩, if_pos j0]
    · rw [if_neg (fun x => j0 x.2), if_neg j0]
      by_cases j1 : j = D 7 0
      · rw [if_pos ⟨rfl, j1⟩, if_pos j1]
      · rw [if_neg (fun x => j1 x.2), if_neg j1, r39]
  have e00 : gI M24 p 0 = nI (E 0 0) := by rw [i24' _ _ (by omega) (by omega) (by omega) (by omega) (by omega) (by omega)]; exact hP.1.1
  have kp : ∀ c k, 8 ≤ c → c ≤ 37 → gI M24 c k = gI M6 c k := fun c k x y => i24' c k (by omega) (by omega) (by omega) (by omega) (by omega) (by omega)
  refine ⟨M24, ?_, fun c k x => i24' c k (by omega) (by omega) (by omega) (by omega) (by omega) (by omega), ?_⟩
  · rw [wI_eq, wI_eq, if_neg (by decide), h74, show gI (sI M6 0 13 0) 7 5 = gI M6 7 5 from rfl, h75, hM8, r8, r8, e03, e04, ckK_eq hq5, ckK_eq (kd_p hp), wR_eq, wR_eq, hM12]
    have cur : f_Acts_current M12 = some (s, M12) := by
      unfold f_Acts_current
      rw [w38, hC.1, rald_nI (by omega) (by decide) (by rw [r39, hs]; exact kd_st hcell), r39, hs]
    rw [cur, bnd_s, r123, ckK_eq (kd_p hp), b1, bnd_s, f1, bnd_s]
    show ckK (gR (sI (sI (sI M19 99 6 0) 92 7 0) 0 8 0) 0 3) 5 (some (gI (sI (sI (sI M19 99 6 0) 92 7 0) 0 8 0) (gR (sI (sI (sI M19 99 6 0) 92 7 0) 0 8 0) 0 3) 0, sI (sI (sI M19 99 6 0) 92 7 0) 0 8 0)) = _
    rw [hM24, r243, ckK_eq (kd_p hp), e00]
  · unfold SND
    rw [r243]
    have w16 : gI M6 16 0 = 0 ∧ gI M6 31 0 = 0 := by
      rcases hpq with ⟨x, y⟩ | ⟨x, y⟩
      · subst x
        exact ⟨h8, by rw [hg 31 0 (by unfold wC; omega) (by omega)]; exact z31⟩
      · subst x
        exact ⟨by rw [hg 16 0 (by unfold wC; omega) (by omega)]; exact z16, h8⟩
    refine ⟨⟨?_, ?_, ?_⟩, hP.c1 (fun c k x y => kp c k (by omega) (by omega)), fun k hk => ?_, ⟨?_, ?_, fun j hj => ?_, fun i j hi hj x => ?_, fun i hi => ?_⟩, ⟨?_, fun b => ?_⟩, ⟨?_, ?_, ?_⟩, ?_, ?_, ?_⟩
    · rw [r243, r244]; omega
    · rw [kp 16 0 (by omega) (by omega)]; exact w16.1
    · rw [kp 31 0 (by omega) (by omega)]; exact w16.2
    · rw [kp _ _ (by omega) (by omega)]; exact h13 k hk
    · rw [← hM24, gI_sI, if_neg (by omega), gI_sI, if_neg (by omega), gI_sI, if_neg (by omega), f2, if_pos (by omega)]
    · rw [← hM24, gI_sI, if_neg (by omega), gI_sI, if_neg (by omega), gI_sI, if_neg (by omega), f2, if_pos (by omega)]
    · rw [r2439]
      split
      · exact hcell
      · split
        · exact hC.2.2.1 0 (by omega)
        · exact hC.2.2.1 j hj
    · have inj := hC.2.2.2.1
      have l0 : (0 : Nat) ≤ 40 := by omega
      rw [r2439, r2439] at x
      by_cases i0 : i = 0
      · rw [if_pos i0] at x
        by_cases j0 : j = 0
        · omega
        · rw [if_neg j0] at x
          by_cases j1 : j = D 7 0
          · rw [if_pos j1, ← hs] at x
            have := inj _ _ hle l0 x
            omega
          · rw [if_neg j1, ← hs] at x
            have := inj _ _ hle hj x
            omega
      · rw [if_neg i0] at x
        by_cases i1 : i = D 7 0
        · rw [if_pos i1] at x
          by_cases j0 : j = 0
          · rw [if_pos j0, ← hs] at x
            have := inj _ _ l0 hle x
            omega
          · rw [if_neg j0] at x
            by_cases j1 : j = D 7 0
            · omega
            · rw [if_neg j1] at x
              have := inj _ _ l0 hj x
              omega
        · rw [if_neg i1] at x
          by_cases j0 : j = 0
          · rw [if_pos j0, ← hs] at x
            have := inj _ _ hi hle x
            omega
          · rw [if_neg j0] at x
            by_cases j1 : j = D 7 0
            · rw [if_pos j1] at x
              have := inj _ _ hi l0 x
              omega
            · rw [if_neg j1] at x
              exact inj _ _ hi hj x
    · rw [r2439, if_pos rfl, i24 _ _ (by omega) (by omega) (by omega) (by omega), b4 i hi, i12, i12, i8 _ _ (by omega), i8 _ _ (by omega), hP.1.2.1, h16]
    · rw [← hM24, gI_sI, if_pos ⟨rfl, rfl⟩]
    · rw [r24, if_neg (by omega), if_neg (by omega), r12 _ _ (by omega), hr _ _ (by omega)]
    · rw [i24' _ _ (by omega) (by omega) (by omega) (by omega) (by omega) (by omega)]; exact h11
    · rw [i24 _ _ (by omega) (by omega) (by omega) (by omega), b3 _ _ (by omega), i12, ← hM8]; rfl
    · rw [i24 _ _ (by omega) (by omega) (by omega) (by omega), b3 _ _ (by omega), i12, ← hM8]; rfl
    · rw [← hM24, gI_sI, if_neg (by omega), gI_sI, if_neg (by omega), gI_sI, if_pos ⟨rfl, rfl⟩]
    · rw [i24' _ _ (by omega) (by omega) (by omega) (by omega) (by omega) (by omega), hg _ _ (by unfold wC; omega) (by omega)]
    · rw [← hM24, gI_sI, if_neg (by omega), gI_sI, if_pos ⟨rfl, rfl⟩]
theorem loftC {D : DT} {M : AM} (h : Rel D M) : ∃ v K, f_C_loft M = some (v, K) ∧ (∀ c k, 105 ≤ c → gI K c k = gI M c k) ∧ ((∃ j E, sAll (byt (D 52) (D 9 0)) 1601 0 Z0 = .inl (j, E) ∧ v = nI (E 0 0) ∧ okN E ∧ HD E ∧ SND E M K) ∨ (∃ k pl, sAll (byt (D 52) (D 9 0)) 1601 0 Z0 = .inr (k, pl) ∧ v = -1 ∧ gI K 0 13 = nI k ∧ gI K 0 14 = nI pl ∧ gI K 1 1 = 0 ∧ gI K (gR M 0 4 + 8) 0 = 0 ∧ (∀ c k, ¬ (c = 7 ∧ k = 1) → gR K c k = gR M c k) ∧ (∀ c k, ¬ (wC (gR M 0 4) c ∨ c = gR M 0 4 + 8) → ¬ (c = 1 ∧ k = 1) → ¬ (c = 0 ∧ (k = 13 ∨ k = 14)) → gI K c k = gI M c k))) := by
  obtain ⟨ok, hC, hM, hB, hT, hS, hL⟩ := h.parts
  have hz : D 9 0 ≤ 1600 := ok.2.2.2.2.1
  have hBy : ∀ i, i < D 9 0 → D 52 i < 256 := ok.2.2.2.2.2.2.2.2.1
  obtain ⟨M2, s1, s2, s3⟩ := scan_ok hz hBy (N := M) ⟨hT.1, fun i hi => (hT.2.2.1 i hi).2⟩
  have hpl := h.2.2.1
  have hp : gR M 0 4 = 8 ∨ gR M 0 4 = 23 := by
    rcases hpl.1 with x | x <;> omega
  have hct : CT (byt (D 52) (D 9 0)) (sI M2 1 1 0) 0 := s2.keep (fun c k q => by rw [gI_sI, if_neg (by omega)]) (fun _ _ _ => rfl)
  have h8 : gI (sI M2 1 1 0) (gR M 0 4 + 8) 0 = 0 := by
    rw [gI_sI, if_neg (by omega), s3.2.1 _ _ (by omega) (by omega) (by omega)]
    rcases hp with x | x <;> rw [x]
    · exact hpl.2.1
    · exact hpl.2.2
  obtain ⟨v, M6, r1, r2, r3, r4, r5⟩ := read_ok hz hBy hp hct h8
  have g04 : gR (sI M2 1 1 0) 0 4 = gR M 0 4 := s3.1 0 4
  have fR : ∀ c k, ¬ (c = 7 ∧ k = 1) → gR M6 c k = gR M c k := fun c k q => (r2 c k q).trans (s3.1 c k)
  have fI : ∀ c k, ¬ (wC (gR M 0 4) c ∨ c = gR M 0 4 + 8) → ¬ (c = 1 ∧ k = 1) → gI M6 c k = gI M c k := fun c k q q2 => by
    rw [r3 c k q, gI_sI, if_neg q2]
    have : ¬ wC (gR M 0 4) c := fun e => q (Or.inl e)
    unfold wC at this
    exact s3.2.1 c k (by omega) (by omega) (by omega)
  have f11 : gI M6 1 1 = 0 := by rw [r3 1 1 (by unfold wC; omega), gI_sI, if_pos ⟨rfl, rfl⟩]
  have f105 : ∀ c k, 105 ≤ c → gI M6 c k = gI M c k := fun c k q => fI c k (by unfold wC; omega) (by omega)
  unfold f_C_loft
  rw [s1, bnd_s, wI_eq, g04, ckK_eq (kd_p hp), r1, bnd_s]
  rcases r5 with ⟨j, E, e1, rfl, e3, e4, e5, e6, e7, e8, e9⟩ | ⟨k, pl, e1, rfl, e3, e4⟩
  · obtain ⟨K, x1, x2, x3⟩ := takeC h fR fI f11 r4 e5 e6 e7 e8 e9
    exact ⟨nI (E 0 0), K, x1, fun c k q => (x2 c k q).trans (f105 c k q), Or.inl ⟨j, E, e1, rfl, e3, e4, x3⟩⟩
  · refine ⟨-1, sI (sI M6 0 13 (gI M6 7 4)) 0 14 (gI M6 7 5), ?_, fun c k q => ?_, Or.inr ⟨k, pl, e1, rfl, e3, e4, ?_, ?_, fun c k q => fR c k q, fun c k q1 q2 q3 => ?_⟩⟩
    · rw [wI_eq, wI_eq, if_pos rfl]; rfl
    · rw [gI_sI, if_neg (by omega), gI_sI, if_neg (by omega)]; exact f105 c k q
    · exact f11
    · rw [gI_sI, if_neg (by omega), gI_sI, if_neg (by omega)]; exact r4
    · rw [gI_sI, if_neg (by omega), gI_sI, if_neg (by omega)]; exact fI c k q1 q2
def newD (E D : DT) : DT := fun r k => if r ≤ 6 then E r k else if r = 7 ∨ r = 8 then 0 else if r = 9 then (if k = 2 then D 9 2 else 0) else if r = 10 then (if k = 0 then E 0 2 else if k = 4 then E 73 0 else 0) else D r k
theorem newD_lo (E D : DT) : ∀ a, a ≤ 6 → newD E D a = E a := fun a ha => by
  funext k
  exact if_pos ha
theorem okP_of {E : DT} (h : okN E) : okP E := by
  obtain ⟨⟨a0, a1, a2, a3, a4, a5, a6, a7, a8, a9⟩, b, d, e, g1, g2, g3, g4⟩ := h
  exact ⟨a0, a1, a2, a3, a4, by omega, fun l hl => ⟨(b l hl).2.1, (b l hl).2.2.1, (b l hl).2.2.2.1⟩, fun c hc => (d c hc).2, g2, g3, g4⟩
theorem B_loft : Both f_C_loft f_Mo_loft := by
  intro D M h
  obtain ⟨ok, hC, hM, hB, hT, hS, hL⟩ := h.parts
  have hz : D 9 0 ≤ 1600 := ok.2.2.2.2.1
  have hBy : ∀ i, i < D 9 0 → D 52 i < 256 := ok.2.2.2.2.2.2.2.2.1
  obtain ⟨v, K, c1, c2, c3⟩ := loftC h
  obtain ⟨w, K2, m1, m2, m3, m4, m5⟩ := loftM hz hBy (N := K) (by rw [c2 105 1 (by omega)]; exact hT.2.1) (fun i hi => by rw [c2 106 i (by omega)]; exact (hT.2.2.1 i hi).1)
  rcases c3 with ⟨j, E, e1, rfl, hO, hH, p1, p2, p3, ⟨p4, p5, p6, p7, p8⟩, ⟨p9, p10⟩, ⟨p11, p12, p13⟩, p14, p15, p16⟩ | ⟨k, pl, e1, rfl, f1, f2, f3, f4, f5, f6⟩
  · rcases m5 with ⟨j', E', e1', rfl, n2, n3, n4, n5, n6, n7, n8, n9, n10, n11⟩ | ⟨k', pl', e1', -⟩
    · have ee := e1.symm.trans e1'
      cases ee
      refine ⟨nI (E 0 0), K, K2, newD E D, c1, m1, (okP_of hO).dg (newD_lo E D), ?_, ?_, ?_, ?_, n5.dg (newD_lo E D), ?_, ?_, ?_, ?_, ?_, ?_⟩
      · obtain ⟨k1, k2, k3, k4, k5, k6, k7, k8, k9, k10⟩ := ok
        refine ⟨Nat.le_refl _, Nat.zero_le _, fun j hj => ?_, fun b hb => ⟨Nat.zero_le _, fun q => absurd (show (0 : Nat) = 1 from q) (by decide)⟩, Nat.zero_le _, Nat.zero_le _, k7, Nat.zero_le _, fun i hi => absurd hi (Nat.not_lt_zero i), fun i hi => absurd hi (Nat.not_lt_zero i)⟩
        have hj0 : j = 0 := Nat.le_zero.mp hj
        subst hj0
        refine ⟨hO.1.2.2.1, Nat.two_pow_pos _, Nat.zero_le _, ?_⟩
        have := hO.1.2.2.2.2.2.1
        show E 73 0 < 1000
        omega
      · unfold PLN
        rw [m2, m2, m3 16 0 (by omega), m3 31 0 (by omega)]; exact p1
      · rw [m2]
        refine (p2.c1 (fun c k x y => m3 c k ?_)).dg (newD_lo E D)
        have := p1.or
        omega
      · rw [m2]
        refine CCH.none hO.1.1 (fun k hk => ?_)
        have := p1.or
        rw [m3 _ _ (by omega)]; exact p3 k hk
      · refine ⟨by rw [m3 _ _ (by omega)]; exact p4, by rw [m3 _ _ (by omega)]; exact p5, fun j hj => by rw [m2]; exact p6 j hj, fun i j hi hj x => by rw [m2, m2] at x; exact p7 i j hi hj x, fun j i hj hi => ?_⟩
        have hj0 : j = 0 := Nat.le_zero.mp hj
        subst hj0
        have := p6 0 (by omega)
        rw [m2, m3 _ _ (by omega), p8 i hi]
        show _ = nI (if i = 0 then E 0 2 else if i = 4 then E 73 0 else 0)
        by_cases i0 : i = 0
        · rw [if_pos i0, if_pos i0]
        · rw [if_neg i0, if_neg i0]
          by_cases i4 : i = 4
          · rw [if_pos i4, if_pos i4]
          · rw [if_neg i4, if_neg i4]; rfl
      · refine ⟨n6, n7, fun i hi => ?_, fun j i hj => absurd hj (Nat.not_lt_zero j), fun j i h1 h2 => absurd h2 (Nat.not_lt_zero j)⟩
        rw [n11 i hi]
        show _ = nI (if i = 0 then E 0 2 else if i = 4 then E 73 0 else 0)
        by_cases i0 : i = 0
        · rw [if_pos i0, if_pos i0]
        · rw [if_neg i0, if_neg i0]
          by_cases i4 : i = 4
          · rw [if_pos i4, if_pos i4]
          · rw [if_neg i4, if_neg i4]; rfl
      · refine ⟨by rw [m3 _ _ (by omega)]; exact p9, fun b hb => ⟨by rw [m2, p10]; exact (hB.2 b hb).1, n10 b hb, fun q => absurd (show (0 : Nat) = 1 from q) (by decide)⟩⟩
      · refine ⟨by rw [m3 _ _ (by omega)]; exact p11, m4, fun i hi => absurd hi (Nat.not_lt_zero i), ?_, ?_⟩
        · rw [m3 _ _ (by omega), p12, n2]
        · rw [m3 _ _ (by omega), p13, n3]
      · refine ⟨by rw [m3 _ _ (by omega)]; exact p14, n8, ?_, ?_, fun i hi => absurd hi (Nat.not_lt_zero i)⟩
        · rw [m3 _ _ (by omega), p15]; exact hS.2.2.1
        · rw [n4, c2 _ _ (by omega)]; exact hS.2.2.2.1
      · exact ⟨by rw [m3 _ _ (by omega)]; exact p16, n9, fun i hi => absurd hi (Nat.not_lt_zero i)⟩
    · exact absurd (e1.symm.trans e1') (by simp)
  · rcases m5 with ⟨j', E', e1', -⟩ | ⟨k', pl', e1', rfl, n2, n3, n4⟩
    · exact absurd (e1.symm.trans e1') (by simp)
    · have ee := e1.symm.trans e1'
      cases ee
      have e : ∀ a, a ≠ 9 → rw1 D 9 (at1 (D 9) 0 0) a = D a := fun a x => rw1_n x
      have e9 : rw1 D 9 (at1 (D 9) 0 0) 9 = at1 (D 9) 0 0 := rw1_s _ _ _
      have hpl := h.2.2.1
      have hlo : ∀ c k, c < 105 → ¬ (wC (gR M 0 4) c ∨ c = gR M 0 4 + 8) → ¬ (c = 1 ∧ k = 1) → ¬ (c = 0 ∧ (k = 13 ∨ k = 14)) → gI K2 c k = gI M c k := fun c k x q1 q2 q3 => (m3 c k x).trans (f6 c k q1 q2 q3)
      have hhi : ∀ c k, 105 ≤ c → ¬ wM c k → ¬ (c = 105 ∧ (k = 1 ∨ k = 5)) → gI K2 c k = gI M c k := fun c k x q1 q2 => (n4 c k q1 q2).trans (c2 c k x)
      have hRR : ∀ c k, ¬ (c = 7 ∧ k = 1) → gR K2 c k = gR M c k := fun c k q => (m2 c k).trans (f5 c k q)
      have q03 : gR K2 0 3 = gR M 0 3 := hRR 0 3 (by omega)
      have q04 : gR K2 0 4 = gR M 0 4 := hRR 0 4 (by omega)
      have cur : ∀ c k, gR M 0 3 ≤ c → c ≤ gR M 0 3 + 14 → gI K2 c k = gI M c k := fun c k x y => by
        refine hlo c k ?_ ?_ ?_ ?_
        · rcases hpl.1 with z | z <;> omega
        · unfold wC
          rcases hpl.1 with z | z <;> omega
        · rcases hpl.1 with z | z <;> omega
        · rcases hpl.1 with z | z <;> omega
      obtain ⟨k1, k2, k3, k4, k5, k6, k7, k8, k9, k10⟩ := id ok
      have wlo : ∀ c k, (38 ≤ c ∧ c < 105) ∨ (c = 0 ∧ k = 8) → gI K2 c k = gI M c k := fun c k x => by
        refine hlo c k ?_ ?_ ?_ ?_
        · omega
        · unfold wC
          rcases hpl.1 with z | z <;> omega
        · omega
        · omega
      have whi : ∀ c k, (c = 105 ∧ (k = 18 ∨ k = 21 ∨ k = 25 ∨ (41 ≤ k ∧ k ≤ 46) ∨ 50 ≤ k)) ∨ c = 110 ∨ c = 111 ∨ 119 ≤ c → gI K2 c k = gI M c k := fun c k x => hhi c k (by omega) (by unfold wM; omega) (by omega)
      refine ⟨-1, K, K2, rw1 D 9 (at1 (D 9) 0 0), c1, m1, h.1.dg (fun a ha => e a (by omega)), ?_, ?_, ?_, ?_, (h.2.2.2.2.2.1.cg (fun c k q => whi c k (by unfold lMP at q; omega))).dg (fun a ha => e a (by omega)), ?_, ?_, ?_, ?_, ?_, ?_⟩
      · refine ok.dg (e 0 (by decide)) (e 7 (by decide)) (e 8 (by decide)) (fun j hj => e _ (by omega)) (fun b hb => e _ (by omega)) ?_ ?_ ?_ ?_ ?_ ?_
        · rw [e9, at1_s]; exact Nat.zero_le _
        · rw [e9, at1_n (by decide)]; exact k6
        · rw [e9, at1_n (by decide)]; exact k7
        · rw [e9, at1_n (by decide)]; exact k8
        · rw [e9, at1_s]; exact fun i hi => absurd hi (Nat.not_lt_zero i)
        · rw [e9, at1_n (by decide), at1_n (by decide), e 53 (by decide), e 54 (by decide), e 55 (by decide)]; exact k10
      · unfold PLN
        rw [q03, q04]
        refine ⟨hpl.1, ?_, ?_⟩
        · rcases hpl.1 with z | z
          · rw [cur 16 0 (by omega) (by omega)]; exact hpl.2.1
          · rw [m3 16 0 (by omega)]
            have := f4
            rw [z.2] at this
            exact this
        · rcases hpl.1 with z | z
          · rw [m3 31 0 (by omega)]
            have := f4
            rw [z.2] at this
            exact this
          · rw [cur 31 0 (by omega) (by omega)]; exact hpl.2.2
      · rw [q03]; exact (h.2.2.2.1.c1 cur).dg (fun a ha => e a (by omega))
      · rw [q03]; exact (h.2.2.2.2.1.c1 cur).dg (fun a ha => e a (by omega))
      · exact (hC.cg (fun c k q => wlo c k (by unfold lCS at q; omega)) (fun j => hRR 39 j (by omega)) k2).dg (e 7 (by decide)) (fun j hj => e _ (by omega)) k2
      · exact (hM.cg (fun c k q => whi c k (by unfold lMS at q; omega))).dg (e 7 (by decide)) (fun j hj => e _ (by omega)) k2 k1
      · refine (hB.cg (fun c k q => ?_) (fun j => hRR 82 j (by omega))).dg (e 8 (by decide)) (fun b hb => e _ (by omega))
        unfold lBX at q
        by_cases x : c < 105
        · exact wlo c k (by omega)
        · exact whi c k (by omega)
      · refine ⟨?_, ?_, ?_, ?_, ?_⟩
        · rw [e9, at1_s, m3 _ _ (by omega)]; exact f3
        · rw [e9, at1_s]; exact m4
        · rw [e9, at1_s]; exact fun i hi => absurd hi (Nat.not_lt_zero i)
        · rw [m3 _ _ (by omega), f1, n2]
        · rw [m3 _ _ (by omega), f2, n3]
      · refine (hS.cg (fun c k q => ?_)).dg (by rw [e9, at1_n (by decide)]) (by rw [e9, at1_n (by decide)]) (e 53 (by decide)) (e 54 (by decide)) (e 55 (by decide))
        unfold lSG at q
        by_cases x : c < 105
        · exact wlo c k (by omega)
        · exact whi c k (by omega)
      · refine (hL.cg (fun c k q => ?_)).dg (by rw [e9, at1_n (by decide)])
        unfold lLI at q
        by_cases x : c < 105
        · exact wlo c k (by omega)
        · exact whi c k (by omega)
