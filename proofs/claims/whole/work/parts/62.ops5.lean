/-- boxes -/
theorem bx_or : ∀ x, x < 2 → ∀ y, y < 2 → ∀ z, z < 2 → ∀ b, b < 3 → nI (x + 2 * y + 4 * z) ||| ((1 : Int32) <<< (nI b &&& 31)) = nI ((if b = 0 then 1 else x) + 2 * (if b = 1 then 1 else y) + 4 * (if b = 2 then 1 else z)) := by decide +kernel
theorem bx_bit : ∀ x, x < 2 → ∀ y, y < 2 → ∀ z, z < 2 → ∀ b, b < 3 → (x + 2 * y + 4 * z) / 2 ^ b % 2 = if b = 0 then x else if b = 1 then y else z := by decide +kernel
theorem box_lt (a : Int32) : (∃ b, b < 3 ∧ a = nI b) ∨ (a < 0 ∨ 3 ≤ a) := in_cases a 3 (by decide)
theorem kd_bx {b : Nat} (h : b < 3) : kd0 (83 + b) = 9 := by
  have : ∀ b, b < 3 → kd0 (83 + b) = 9 := by decide
  exact this b h
theorem imgL (M : AM) {b : Nat} (hb : b < 3) : f_Mo_image_l18 (nI b) fu 0 M = some ((), cpy M 137 (5 * b) 123 0 5) :=
  for_up (fun z (s : Int32 × AM) => f_Mo_image_l18 (nI b) z s.1 s.2) (fun k => (nI k, cpy M 137 (5 * b) 123 0 k)) 5 _
    (fun k z hk => by
      show f_Mo_image_b18 (f_Mo_image_l18 (nI b) z) (nI b) (nI k) (cpy M 137 (5 * b) 123 0 k) = _
      unfold f_Mo_image_b18
      rw [nI_lit 5, if_neg (nI_ge hk (by decide)), ald_nI (by omega) (by decide), pk_mul, nI_add, ast_nI (by omega) (by decide), nI_1]
      show f_Mo_image_l18 (nI b) z (nI (k + 1)) _ = f_Mo_image_l18 (nI b) z (nI (k + 1)) (sI (cpy M 137 (5 * b) 123 0 k) 137 (5 * b + k) (gI (cpy M 137 (5 * b) 123 0 k) 123 (0 + k)))
      rw [Nat.zero_add])
    (fun z => by
      show f_Mo_image_b18 (f_Mo_image_l18 (nI b) z) (nI b) (nI 5) (cpy M 137 (5 * b) 123 0 5) = _
      unfold f_Mo_image_b18
      rw [nI_lit 5, if_pos (nI_le (Nat.le_refl _) (by decide))]) 5 0 fu rfl (by rw [fu_eq]; decide)
theorem backL (M : AM) {b : Nat} (hb : b < 3) : f_Mo_back_l20 (nI b) fu 0 M = some ((), cpy M 123 0 137 (5 * b) 5) :=
  for_up (fun z (s : Int32 × AM) => f_Mo_back_l20 (nI b) z s.1 s.2) (fun k => (nI k, cpy M 123 0 137 (5 * b) k)) 5 _
    (fun k z hk => by
      show f_Mo_back_b20 (f_Mo_back_l20 (nI b) z) (nI b) (nI k) (cpy M 123 0 137 (5 * b) k) = _
      unfold f_Mo_back_b20
      rw [nI_lit 5, if_neg (nI_ge hk (by decide)), pk_mul, nI_add, ald_nI (by omega) (by decide), ast_nI (by omega) (by decide), nI_1]
      show f_Mo_back_l20 (nI b) z (nI (k + 1)) _ = f_Mo_back_l20 (nI b) z (nI (k + 1)) (sI (cpy M 123 0 137 (5 * b) k) 123 (0 + k) (gI (cpy M 123 0 137 (5 * b) k) 137 (5 * b + k)))
      rw [Nat.zero_add])
    (fun z => by
      show f_Mo_back_b20 (f_Mo_back_l20 (nI b) z) (nI b) (nI 5) (cpy M 123 0 137 (5 * b) 5) = _
      unfold f_Mo_back_b20
      rw [nI_lit 5, if_pos (nI_le (Nat.le_refl _) (by decide))]) 5 0 fu rfl (by rw [fu_eq]; decide)
theorem B_image (a : Int32) : Both (f_C_image a) (f_Mo_image a) := by
  intro D M h
  obtain ⟨ok, hC, hM, hB, hT, hS, hL⟩ := h.parts
  unfold f_C_image f_Mo_image f_Mo_isBox
  rcases box_lt a with ⟨b, hb, rfl⟩ | ho
  · have hcell := h.cell
    have hbx := hB.2 b hb
    obtain ⟨M1, b1, b2, b3⟩ := become_ok (M := M) (d := 83 + b) (s := gR M 39 (D 7 0)) (by omega)
    have k8 : gI M1 0 8 = nI (D 8 0 + 2 * D 8 1 + 4 * D 8 2) := by rw [b2, if_neg (by omega)]; exact hB.1
    have l0 := (ok.2.2.2.1 0 (by decide)).1
    have l1 := (ok.2.2.2.1 1 (by decide)).1
    have l2 := (ok.2.2.2.1 2 (by decide)).1
    generalize hbits : (if b = 0 then 1 else D 8 0) + 2 * (if b = 1 then 1 else D 8 1) + 4 * (if b = 2 then 1 else D 8 2) = bits
    generalize hM2 : sI M1 0 8 (nI bits) = M2
    have i2 : ∀ c k, gI M2 c k = if c = 0 ∧ k = 8 then nI bits else if c = 83 + b ∧ k < 5 then gI M (gR M 39 (D 7 0)) k else gI M c k := fun c k => by rw [← hM2, gI_sI, b2]
    have n0 : ¬ nI b < 0 := nI_pos (by omega)
    have n3 : nI b < 3 := nI_lt (b := 3) hb (by decide)
    have n3' : ¬ (3 : Int32) ≤ nI b := nI_ge (b := 3) hb (by decide)
    generalize hM3 : cpy (sI M2 136 b 1) 137 (5 * b) 123 0 5 = M3
    have i3 : ∀ c k, gI M3 c k = if c = 137 ∧ 5 * b ≤ k ∧ k < 5 * b + 5 then gI M 123 (k - 5 * b) else if c = 136 ∧ k = b then 1 else if c = 0 ∧ k = 8 then nI bits else if c = 83 + b ∧ k < 5 then gI M (gR M 39 (D 7 0)) k else gI M c k := fun c k => by
      have z123 : ∀ x, gI (sI M2 136 b 1) 123 x = gI M 123 x := fun x => by rw [gI_sI, if_neg (by omega), i2, if_neg (by omega), if_neg (by omega)]
      rw [← hM3, cpy_I (by omega), z123, gI_sI, i2, Nat.zero_add]
    have r3 : ∀ c k, gR M3 c k = gR M c k := fun c k => by rw [← hM3, cpy_R, gR_sI, ← hM2, gR_sI, b3]
    let E : DT := rw1 (rw1 D 8 (at1 (D 8) b 1)) (60 + b) (D (10 + D 7 0))
    have e : ∀ x, x ≠ 8 → x ≠ 60 + b → E x = D x := fun x h1 h2 => by show rw1 _ _ _ x = _; rw [rw1_n h2, rw1_n h1]
    have e8 : E 8 = at1 (D 8) b 1 := by show rw1 _ _ _ 8 = _; rw [rw1_n (by omega), rw1_s]
    have e60 : E (60 + b) = D (10 + D 7 0) := rw1_s _ _ _
    have e7 : E 7 = D 7 := e 7 (by omega) (by omega)
    have hlek := h.le
    refine ⟨nI (D (10 + D 7 0) 0), M2, M3, E, ?_, ?_, ?_⟩
    · rw [if_neg n0, if_pos n3, cur_ok h, bnd_s, rald_nI hb (by decide) (by rw [hbx.1]; exact kd_bx hb), hbx.1, b1, bnd_s, wI_eq, k8, bx_or _ (by omega) _ (by omega) _ (by omega) b hb, hbits, hM2, i2, if_neg (by omega), if_neg (by omega), cst h (by decide)]
    · rw [if_neg n0, if_neg n3', bnd_s, if_neg (by decide), ast_nI hb (by decide), imgL _ hb, bnd_s, nI_lit 0, ald_nI (by decide) (by decide), hM3, i3, if_neg (by omega), if_neg (by omega), if_neg (by omega), if_neg (by omega), now_ok h (by decide)]
    · refine h.state (fun c k q => ?_) (fun c k _ => r3 c k) (fun x hx => e x (by omega) (by omega)) (by rw [e7]; exact h.le) (fun j hj => Or.inl (ok.2.2.1 j (by rw [e7] at hj; exact hj))) (fun j hj => ?_) (fun c hc => ?_) ?_ ?_ ?_ ?_
      · rw [i3, if_neg, if_neg, if_neg, if_neg] <;> (intro z; apply q; unfold WS lBX; omega)
      · rw [e7] at hj
        exact (ok.2.2.1 j hj).dg (e 0 (by omega) (by omega)) (e _ (by omega) (by omega))
      · rw [e8]
        by_cases hcb : c = b
        · rw [hcb, at1_s]
          refine ⟨Nat.le_refl _, fun _ => ?_⟩
          unfold okS5
          rw [e60, e 0 (by omega) (by omega)]
          exact h.st
        · rw [at1_n hcb]
          exact ⟨(ok.2.2.2.1 c hc).1, fun z => ((ok.2.2.2.1 c hc).2 z).dg (e 0 (by omega) (by omega)) (e _ (by omega) (by omega))⟩
      · refine CCH.keep h (fun c k q1 q2 => ?_)
        rw [i3, if_neg (by omega), if_neg (by omega), if_neg (by omega), if_neg (by omega)]
      · refine (hC.cg (fun c k q => ?_) (fun j => r3 39 j) ok.2.1).dg e7 (fun j hj => e _ (by omega) (by omega)) ok.2.1
        unfold lCS at q
        rw [i3, if_neg (by omega), if_neg (by omega), if_neg (by omega), if_neg (by omega)]
      · refine (hM.cg (fun c k q => ?_)).dg e7 (fun j hj => e _ (by omega) (by omega)) ok.2.1 ok.1
        unfold lMS at q
        rw [i3, if_neg (by omega), if_neg (by omega), if_neg (by omega), if_neg (by omega)]
      · refine ⟨?_, fun c hc => ⟨by rw [r3]; exact (hB.2 c hc).1, ?_, fun hk i hi => ?_⟩⟩
        · rw [i3, if_neg (by omega), if_neg (by omega), if_pos (by omega), ← hbits, e8]
          unfold at1
          congr 1
          have q : ∀ x : Nat, (if x = b then 1 else D 8 x) = if b = x then 1 else D 8 x := fun x => by
            by_cases z : x = b
            · rw [if_pos z, if_pos z.symm]
            · rw [if_neg z, if_neg (fun w => z w.symm)]
          rw [q, q, q]
        · rw [i3, if_neg (by omega), e8]
          by_cases hcb : c = b
          · rw [if_pos (by omega), hcb, at1_s]; rfl
          · rw [if_neg (by omega), if_neg (by omega), if_neg (by omega), at1_n hcb]; exact (hB.2 c hc).2.1
        · by_cases hcb : c = b
          · subst hcb
            rw [e60, i3, i3, if_neg (by omega), if_neg (by omega), if_neg (by omega), if_pos (by omega), if_pos (by omega), show 5 * c + i - 5 * c = i by omega]
            exact ⟨cst h hi, now_ok h hi⟩
          · rw [e8, at1_n hcb] at hk
            rw [e _ (by omega) (by omega), i3, i3, if_neg (by omega), if_neg (by omega), if_neg (by omega), if_neg (by omega), if_neg (by omega), if_neg (by omega), if_neg (by omega), if_neg (by omega)]
            exact (hB.2 c hc).2.2 hk i hi
  · refine ⟨-1, M, M, D, ?_, ?_, h⟩
    · by_cases h0 : a < 0
      · rw [if_pos h0]
      · rw [if_neg h0, if_neg]
        have := ho.resolve_left h0
        rw [Int32.le_iff_toInt_le] at this
        rw [Int32.lt_iff_toInt_lt]; omega
    · by_cases h0 : a < 0
      · rw [if_pos h0]; rfl
      · rw [if_neg h0, if_pos (ho.resolve_left h0)]; rfl

theorem forget_ok {M : AM} {n : Nat} (hn : n ≤ 40) (h : gI M 38 1 = nI n) (hr : ∀ j, j ≤ 40 → 40 ≤ gR M 39 j ∧ gR M 39 j ≤ 80) : ∃ M', f_Acts_forget M = some ((), M') ∧ (∀ c k, gI M' c k = if c = 38 ∧ (k = 1 ∨ k = 2) then 0 else gI M c k) ∧ (∀ c k, gR M' c k = if c = 39 ∧ k = 0 then gR M 39 n else if c = 39 ∧ k = n then gR M 39 0 else gR M c k) := by
  unfold f_Acts_forget
  refine ⟨?_, ?_, fun c k => ?_, fun c k => ?_⟩
  rotate_left
  · rw [h, rald_nI (by omega) (by decide) (kd_st (hr n hn)), nI_lit 0, rald_nI (by omega) (by decide) (kd_st (hr 0 (by omega))), rast_nI (by omega) (by decide), rast_nI (by omega) (by decide), wI_eq, wI_eq]
  · rw [gI_sI, gI_sI, gI_sR, gI_sR]
    by_cases q : c = 38 ∧ (k = 1 ∨ k = 2)
    · rw [if_pos q]
      by_cases q2 : c = 38 ∧ k = 2
      · rw [if_pos q2]; rfl
      · rw [if_neg q2, if_pos (by omega)]; rfl
    · rw [if_neg q, if_neg (by omega), if_neg (by omega)]
  · rw [gR_sI, gR_sI, gR_sR, gR_sR]
theorem B_back (a : Int32) : Both (f_C_back a) (f_Mo_back a) := by
  intro D M h
  obtain ⟨ok, hC, hM, hB, hT, hS, hL⟩ := h.parts
  unfold f_C_back f_Mo_back f_Mo_isBox
  rcases box_lt a with ⟨b, hb, rfl⟩ | ho
  · have hcell := h.cell
    have hbx := hB.2 b hb
    have l0 := (ok.2.2.2.1 0 (by decide)).1
    have l1 := (ok.2.2.2.1 1 (by decide)).1
    have l2 := (ok.2.2.2.1 2 (by decide)).1
    have n0 : ¬ nI b < 0 := nI_pos (by omega)
    have n3' : ¬ (3 : Int32) ≤ nI b := nI_ge (b := 3) hb (by decide)
    have hbit : ((gI M 0 8 >>> (nI b &&& 31)) &&& 1) = nI (D 8 b) := by
      rw [hB.1, nx_bit (by omega) (by omega), bx_bit _ (by omega) _ (by omega) _ (by omega) b hb]
      obtain rfl | rfl | rfl : b = 0 ∨ b = 1 ∨ b = 2 := by omega
      all_goals rfl
    rcases (show D 8 b = 0 ∨ D 8 b = 1 by have := (ok.2.2.2.1 b hb).1; omega) with h8 | h8
    · refine ⟨-1, M, M, D, ?_, ?_, h⟩
      · rw [if_neg n0, if_neg n3', hbit, h8, if_pos (by decide)]
      · rw [if_neg n0, if_neg n3', bnd_s, if_neg (by decide), ald_nI hb (by decide), hbx.2.1, h8, if_pos (by decide)]
    · have hk8 := hbx.2.2 h8
      obtain ⟨M1, b1, b2, b3⟩ := become_ok (M := M) (d := gR M 39 (D 7 0)) (s := 83 + b) (by omega)
      obtain ⟨M2, c1, c2, c3⟩ := forget_ok (M := M1) (n := D 7 0) h.le40 (by rw [b2, if_neg (by omega)]; exact hC.1) (fun j hj => by rw [b3]; exact hC.2.2.1 j hj)
      have i2 : ∀ c k, gI M2 c k = if c = 38 ∧ (k = 1 ∨ k = 2) then 0 else if c = gR M 39 (D 7 0) ∧ k < 5 then gI M (83 + b) k else gI M c k := fun c k => by rw [c2, b2]
      have r2 : ∀ c k, gR M2 c k = if c = 39 ∧ k = 0 then gR M 39 (D 7 0) else if c = 39 ∧ k = D 7 0 then gR M 39 0 else gR M c k := fun c k => by rw [c3, b3, b3, b3]
      generalize hM3 : sI (sI (cpy M2 123 0 137 (5 * b) 5) 105 52 0) 105 53 0 = M3
      have i3 : ∀ c k, gI M3 c k = if c = 105 ∧ k = 53 then 0 else if c = 105 ∧ k = 52 then 0 else if c = 123 ∧ k < 5 then gI M 137 (5 * b + k) else if c = 38 ∧ (k = 1 ∨ k = 2) then 0 else if c = gR M 39 (D 7 0) ∧ k < 5 then gI M (83 + b) k else gI M c k := fun c k => by
        have z137 : ∀ x, gI M2 137 x = gI M 137 x := fun x => by rw [i2, if_neg (by omega), if_neg (by omega)]
        rw [← hM3, gI_sI, gI_sI, cpy_I (by omega), z137, i2]
        simp only [Nat.zero_le, true_and, Nat.zero_add, Nat.sub_zero]
      have r3 : ∀ c k, gR M3 c k = gR M2 c k := fun c k => by rw [← hM3, gR_sI, gR_sI, cpy_R]
      let E : DT := rw1 (rw1 D 7 (r7 0 0)) 10 (D (60 + b))
      have e : ∀ x, x ≠ 7 → x ≠ 10 → E x = D x := fun x h1 h2 => by show rw1 _ _ _ x = _; rw [rw1_n h2, rw1_n h1]
      have e70 : E 7 0 = 0 := by show rw1 _ _ _ 7 0 = _; rw [rw1_n (by omega), rw1_s]; rfl
      have e71 : E 7 1 = 0 := by show rw1 _ _ _ 7 1 = _; rw [rw1_n (by omega), rw1_s]; rfl
      have e10 : E 10 = D (60 + b) := rw1_s _ _ _
      have hs5 := (ok.2.2.2.1 b hb).2 h8
      have ok0 : okS5 E (10 + 0) := by
        unfold okS5
        rw [show (10 + 0 : Nat) = 10 from rfl, e10, e 0 (by omega) (by omega)]
        exact hs5
      have n12 : gI M2 (83 + b) 0 = nI (D (60 + b) 0) := by rw [i2, if_neg (by omega), if_neg (by omega)]; exact (hk8 0 (by decide)).1
      refine ⟨nI (D (60 + b) 0), M2, M3, E, ?_, ?_, ?_⟩
      · rw [if_neg n0, if_neg n3', hbit, h8, if_neg (by decide), cur_ok h, bnd_s, rald_nI hb (by decide) (by rw [hbx.1]; exact kd_bx hb), hbx.1, b1, bnd_s, c1, bnd_s, rald_nI hb (by decide) (by rw [r2, if_neg (by omega), if_neg (by omega), hbx.1]; exact kd_bx hb), r2, if_neg (by omega), if_neg (by omega), hbx.1, n12]
      · rw [if_neg n0, if_neg n3', bnd_s, if_neg (by decide), ald_nI hb (by decide), show gI M2 136 b = nI (D 8 b) by rw [i2, if_neg (by omega), if_neg (by omega)]; exact hbx.2.1, h8, if_neg (by decide), backL _ hb, bnd_s, wI_eq, wI_eq, nI_lit 0, ald_nI (by decide) (by decide), nI_0, hM3, i3, if_neg (by omega), if_neg (by omega), if_pos (by omega), (hk8 0 (by decide)).2]
      · refine h.state (fun c k q => ?_) (fun c k q => by rw [r3, r2, if_neg (by omega), if_neg (by omega)]) (fun x hx => e x (by omega) (by omega)) (by rw [e70, e71]; omega) (fun j hj => ?_) (fun j hj => ?_) (fun c hc => ?_) ?_ ?_ ?_ ?_
        · rw [i3, if_neg, if_neg, if_neg, if_neg, if_neg] <;> (intro z; apply q; unfold WS lCS lMS; omega)
        · rw [e71] at hj
          rw [show j = 0 by omega]; exact Or.inr ok0
        · rw [e71] at hj
          rw [show j = 0 by omega]; exact ok0
        · rw [e 8 (by omega) (by omega)]
          exact ⟨(ok.2.2.2.1 c hc).1, fun z => ((ok.2.2.2.1 c hc).2 z).dg (e 0 (by omega) (by omega)) (e _ (by omega) (by omega))⟩
        · refine CCH.keep h (fun c k q1 q2 => ?_)
          rw [i3, if_neg (by omega), if_neg (by omega), if_neg (by omega), if_neg (by omega), if_neg (by omega)]
        · have rr : ∀ j, gR M3 39 j = gR M 39 (if j = 0 then D 7 0 else if j = D 7 0 then 0 else j) := fun j => by
            rw [r3, r2]
            by_cases j0 : j = 0
            · rw [if_pos ⟨rfl, j0⟩, if_pos j0]
            · rw [if_neg (by omega), if_neg j0]
              by_cases j1 : j = D 7 0
              · rw [if_pos ⟨rfl, j1⟩, if_pos j1]
              · rw [if_neg (by omega), if_neg j1]
          have hle := h.le40
          refine ⟨?_, ?_, fun j hj => ?_, fun i j hi hj q => ?_, fun j i hj hi => ?_⟩
          · rw [e70, i3, if_neg (by omega), if_neg (by omega), if_neg (by omega), if_pos (by omega)]; rfl
          · rw [e71, i3, if_neg (by omega), if_neg (by omega), if_neg (by omega), if_pos (by omega)]; rfl
          · rw [rr]
            exact hC.2.2.1 _ (by split <;> (try split) <;> omega)
          · rw [rr, rr] at q
            have := hC.2.2.2.1 _ _ (by split <;> (try split) <;> omega) (by split <;> (try split) <;> omega) q
            split at this <;> split at this <;> (try split at this) <;> (try split at this) <;> omega
          · rw [e71] at hj
            obtain rfl : j = 0 := by omega
            rw [rr, if_pos rfl, i3, if_neg (by omega), if_neg (by omega), if_neg (by omega), if_neg (by omega), if_pos (by omega), (hk8 i hi).1]
            rw [show (10 + 0 : Nat) = 10 from rfl, e10]
        · refine ⟨?_, ?_, fun i hi => ?_, fun j i hj hi => ?_, fun j i h1 h2 hi => ?_⟩
          · rw [e70, i3, if_neg (by omega), if_pos (by omega)]; rfl
          · rw [e70, e71, i3, if_pos (by omega)]; rfl
          · rw [e70, i3, if_neg (by omega), if_neg (by omega), if_pos (by omega), (hk8 i hi).2]
            rw [show (10 + 0 : Nat) = 10 from rfl, e10]
          · omega
          · omega
        · refine (hB.cg (fun c k q => ?_) (fun j => by rw [r3, r2, if_neg (by omega), if_neg (by omega)])).dg (e 8 (by omega) (by omega)) (fun c hc => e _ (by omega) (by omega))
          unfold lBX at q
          rw [i3, if_neg (by omega), if_neg (by omega), if_neg (by omega), if_neg (by omega), if_neg (by omega)]
  · refine ⟨-1, M, M, D, ?_, ?_, h⟩
    · by_cases h0 : a < 0
      · rw [if_pos h0]
      · rw [if_neg h0, if_pos (ho.resolve_left h0)]
    · by_cases h0 : a < 0
      · rw [if_pos h0]; rfl
      · rw [if_neg h0, if_pos (ho.resolve_left h0)]; rfl
