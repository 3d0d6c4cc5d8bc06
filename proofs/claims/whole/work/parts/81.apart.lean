/-! apart, mark, dearest, boldest -/
theorem xt_0 (tn : Nat → Nat) : ∀ n, xt tn n 0 = 0 := by
  intro n
  induction n with
  | zero => rfl
  | succ n ih => rw [xt_s, ih, Nat.zero_testBit, if_neg (by decide), Nat.xor_zero]
theorem xor_can {a b c : Nat} (h : a ^^^ b = a ^^^ c) : b = c := by
  have := congrArg (fun x => a ^^^ x) h
  simpa [← Nat.xor_assoc] using this
def apc (D : DT) (d : Nat) : Option Int32 := if d ≠ 0 ∧ thp D (D (10 + D 7 0) 0 ^^^ d) = true then some (nI (pc d)) else none
theorem apc_some {D : DT} {d : Nat} {s : Int32} (h : apc D d = some s) : (d ≠ 0 ∧ thp D (D (10 + D 7 0) 0 ^^^ d) = true) ∧ s = nI (pc d) := by
  unfold apc at h
  by_cases q : d ≠ 0 ∧ thp D (D (10 + D 7 0) 0 ^^^ d) = true
  · rw [if_pos q] at h; cases h; exact ⟨q, rfl⟩
  · rw [if_neg q] at h; cases h
theorem apc_none {D : DT} {d : Nat} (h : apc D d = none) (h0 : d ≠ 0) : ¬ thp D (D (10 + D 7 0) 0 ^^^ d) = true := by
  intro q
  unfold apc at h
  rw [if_pos ⟨h0, q⟩] at h; cases h
theorem leastDifference_ok {D : DT} {M : AM} (h : Rel D M) : ∃ M1, f_Sets_leastDifference (gR M 0 3) (gR M 39 (D 7 0)) M = some (bp (scn (apc D) 256), M1) ∧ Sm M M1 := by
  obtain ⟨M0, c1, c2, c3⟩ := clear_ok M
  have h256 := p2_le h.1.2.1
  have h256l := p2_le h.1.1
  have h0 := p2_pos (D 0 1)
  have hx : ∀ s, xt (D 3) (D 0 1) s < 256 := fun s => Nat.lt_of_lt_of_le (xt_lt h.1 s _ (Nat.le_refl _)) h256l
  have hz : ∀ s, nI (xt (D 3) (D 0 1) s) = 0 ↔ xt (D 3) (D 0 1) s = 0 := fun s => nI_eq (b := 0) (by have := hx s; omega) (by decide)
  have key := setsC h (f_Sets_leastDifference_l9 (gR M 0 3) (gR M 39 (D 7 0))) 1 (by omega) (fun k => ¬ xt (D 3) (D 0 1) k = 0) (fun k => inferInstanceAs (Decidable (¬ _))) (fun k => nI (pc (xt (D 3) (D 0 1) k))) (fun k => xt (D 3) (D 0 1) k) (fun k => by have := hx k; omega) c3 c2
  generalize gR M 0 3 = p at *
  generalize gR M 39 (D 7 0) = r at *
  obtain ⟨o, M1, k1, k2, k3, k4⟩ := key
    (fun k z N h1 h2 hN hv hR hc => by
      obtain ⟨v1, v2, v3, v4, v5, v6, v7⟩ := hv
      show f_Sets_leastDifference_b9 (f_Sets_leastDifference_l9 p r z) p r (nI k) N = _
      unfold f_Sets_leastDifference_b9
      rw [v1, bnd_s, if_neg (sets_go (by omega) h2), ald_nI (by omega) (by decide), v4 k h2, v3, nI_1]
      by_cases hb : k &&& D (10 + D 7 0) 1 = 0
      · rw [if_pos ((and_zero_I (by omega)).mpr hb), if_pos ((hz k).mpr (Decidable.byContradiction (fun q => hc ⟨hb, q⟩)))]
      · rw [if_neg (fun q => hb ((and_zero_I (by omega)).mp q))])
    (fun k z N h1 h2 hN hv hR hb hA => by
      obtain ⟨v1, v2, v3, v4, v5, v6, v7⟩ := hv
      show f_Sets_leastDifference_b9 (f_Sets_leastDifference_l9 p r z) p r (nI k) N = _
      unfold f_Sets_leastDifference_b9
      rw [v1, bnd_s, if_neg (sets_go (by omega) h2), ald_nI (by omega) (by decide), v4 k h2, v3, nI_1, if_pos ((and_zero_I (by omega)).mpr hb), if_neg (fun q => hA ((hz k).mp q)), bc_ok (hx k), bnd_s])
    (fun z N hN hv hR => by
      obtain ⟨v1, v2, v3, v4, v5, v6, v7⟩ := hv
      show f_Sets_leastDifference_b9 (f_Sets_leastDifference_l9 p r z) p r (nI (2 ^ D 0 1)) N = _
      unfold f_Sets_leastDifference_b9
      rw [v1, bnd_s, if_pos (sets_stop (by omega) h0)])
  have ho : o = scn (apc D) 256 := by
    refine k1.uni ((scn_ok (apc D) 256).ext (fun s q => ⟨?_, ?_⟩))
    · rintro ⟨h1, h2⟩
      obtain ⟨⟨h3, h4⟩, rfl⟩ := apc_some h2
      obtain ⟨k, x1, x2, x3⟩ := (thp_iff h _).mp h4
      have x4 := xor_can x3
      refine ⟨k, ?_, x1, x2, by rw [← x4]; exact h3, by rw [x4], x4⟩
      rcases Nat.eq_zero_or_pos k with rfl | hk
      · rw [xt_0] at x4; exact absurd x4 h3
      · exact hk
    · rintro ⟨k, -, x1, x2, x3, rfl, rfl⟩
      refine ⟨hx k, ?_⟩
      unfold apc
      rw [if_pos ⟨x3, (thp_iff h _).mpr ⟨k, x1, x2, rfl⟩⟩]
  refine ⟨M1, ?_, k4⟩
  unfold f_Sets_leastDifference
  rw [c1, bnd_s, show f_Sets_leastDifference_l9 p r fu 1 M0 = f_Sets_leastDifference_l9 p r fu (nI 1) M0 from rfl, k3, bnd_s, k2.1, ho]
theorem Mo_apart_l {D : DT} {N : AM} (hN : Rel D N) (hT : THR (thp D) N) (b : Int32) : f_Mo_apart_l20 b fu (-1) 1 N = some (bp (scn (apc D) 256), N) := by
  have hpic := hN.pic'
  have h0 : (1 : Int32) = nI 1 := rfl
  rw [h0]
  refine scan_up (f_Mo_apart_l20 b) 1 256 (apc D) (by decide) (by decide) (scn_n (k := 0) (if_neg (fun q => q.1 rfl))) (fun k z v h1 h2 hc => ?_) (fun k z s h1 h2 hc => ?_) (fun k z s s0 p0 h1 h2 hc hp hc0 => ?_) (fun z v => ?_)
  · have q := apc_none hc (by omega)
    have hx : D (10 + D 7 0) 0 ^^^ k < 256 := Nat.xor_lt_two_pow (n := 8) hpic h2
    show f_Mo_apart_b20 (f_Mo_apart_l20 b z) b v (nI k) N = _
    unfold f_Mo_apart_b20
    rw [nI_lit 256, if_neg (nI_ge h2 (by decide)), now_ald hN 0 0 rfl (by decide), nx_xor, ald_nI hx (by decide), hT _ hx, if_neg q, if_pos rfl, nI_1]
  · have q := apc_some hc
    have hx : D (10 + D 7 0) 0 ^^^ k < 256 := Nat.xor_lt_two_pow (n := 8) hpic h2
    show f_Mo_apart_b20 (f_Mo_apart_l20 b z) b (-1) (nI k) N = _
    unfold f_Mo_apart_b20
    rw [nI_lit 256, if_neg (nI_ge h2 (by decide)), now_ald hN 0 0 rfl (by decide), nx_xor, ald_nI hx (by decide), hT _ hx, if_pos q.1.2, if_neg (by decide), if_pos (by decide), nI_1]
  · have q := apc_some hc
    have q0 := apc_some hc0
    have l1 := pc_le k
    have l2 := pc_le p0
    have hx : D (10 + D 7 0) 0 ^^^ k < 256 := Nat.xor_lt_two_pow (n := 8) hpic h2
    show f_Mo_apart_b20 (f_Mo_apart_l20 b z) b (nI p0) (nI k) N = _
    unfold f_Mo_apart_b20
    rw [nI_lit 256, if_neg (nI_ge h2 (by decide)), now_ald hN 0 0 rfl (by decide), nx_xor, ald_nI hx (by decide), hT _ hx, if_pos q.1.2, if_neg (by decide), if_neg (nI_pos (by omega)), members_ok (by omega), bnd_s, members_ok (by omega), bnd_s, nI_1, q.2, q0.2]
    by_cases w : pc p0 ≤ pc k
    · rw [if_pos (nI_le w (by omega)), if_neg (nI_nlt w (by omega))]
    · rw [if_neg (nI_ge (by omega) (by omega)), if_pos (nI_lt (by omega) (by omega))]
  · show f_Mo_apart_b20 (f_Mo_apart_l20 b z) b v (nI 256) N = _
    unfold f_Mo_apart_b20
    rw [nI_lit 256, if_pos (nI_le (Nat.le_refl _) (by decide))]
/-- the class's last step with an answer of two -/
theorem endC (b : Int32) (f : Nat → Nat) (o : Option (Int32 × Nat)) (M1 : AM) (F : Int32 → AM → Option (Int32 × AM)) (hF : ∀ s p, o = some (s, p) → p < 2 ^ 31 ∧ F (nI p) M1 = some (nI (f p), M1)) : (if 0 ≤ bp o then bnd (F (bp o) M1) (fun r6 M7 => bnd (f_C_either b r6 (bp o) M7) (fun r8 M9 => some (r8, M9))) else some ((-1), M1)) = some (an2 b (fun p => nI (f p)) o, M1) := by
  cases o with
  | none => rw [if_neg bp_none]; rfl
  | some q =>
    obtain ⟨s, p⟩ := q
    obtain ⟨h1, h2⟩ := hF s p rfl
    rw [if_pos (bp_some (s := s) h1)]
    show bnd (F (nI p) M1) (fun r6 M7 => bnd (f_C_either b r6 (nI p) M7) (fun r8 M9 => some (r8, M9))) = _
    rw [h2, bnd_s, either_eq, bnd_s]
    rfl
theorem endM {b : Int32} (h01 : b = 0 ∨ b = 1) (f : Nat → Nat) (o : Option (Int32 × Nat)) (M1 : AM) (F : Int32 → AM → Option (Int32 × AM)) (hF : ∀ s p, o = some (s, p) → p < 2 ^ 31 ∧ F (nI p) M1 = some (nI (f p), M1)) : (if 0 ≤ bp o then (if b = 0 then bnd (F (bp o) M1) (fun r7 M8 => some (r7, M8)) else some (bp o, M1)) else some ((-1), M1)) = some (an2 b (fun p => nI (f p)) o, M1) := by
  cases o with
  | none => rw [if_neg bp_none]; rfl
  | some q =>
    obtain ⟨s, p⟩ := q
    obtain ⟨h1, h2⟩ := hF s p rfl
    rw [if_pos (bp_some (s := s) h1)]
    show (if b = 0 then bnd (F (nI p) M1) (fun r7 M8 => some (r7, M8)) else some (nI p, M1)) = some (if b = 0 then nI (f p) else if b = 1 then nI p else -1, M1)
    rw [h2, bnd_s]
    by_cases h0 : b = 0
    · rw [if_pos h0, if_pos h0]
    · rw [if_neg h0, if_neg h0, if_pos (h01.resolve_left h0)]
theorem an2_no {b : Int32} (h01 : ¬ (b = 0 ∨ b = 1)) (f : Nat → Int32) (o : Option (Int32 × Nat)) : an2 b f o = -1 := by
  cases o with
  | none => rfl
  | some q =>
    show (if b = 0 then f q.2 else if b = 1 then nI q.2 else -1) = -1
    rw [if_neg (fun q => h01 (Or.inl q)), if_neg (fun q => h01 (Or.inr q))]
theorem B_apart (b : Int32) : Both (f_C_apart b) (f_Mo_apart b) := by
  refine Both.of (fun D => an2 b (fun p => nI (pc p)) (scn (apc D) 256)) (fun D M h => ?_) (fun D M h => ?_)
  · obtain ⟨M1, k1, k2⟩ := leastDifference_ok h
    refine ⟨M1, ?_, k2⟩
    unfold f_C_apart
    rw [ckK_eq (pl_kd h), cur_ok h, bnd_s, k1, bnd_s]
    exact endC b pc _ M1 f_Int_bitCount (fun s p e => by have := (scn_in e).1; exact ⟨by omega, bc_ok this M1⟩)
  · unfold f_Mo_apart
    rw [isIn01, bnd_s]
    by_cases h01 : b = 0 ∨ b = 1
    · obtain ⟨M1, k1, k2, k3⟩ := pictures_ok h
      refine ⟨M1, ?_, k2⟩
      rw [if_pos h01, if_neg (by decide), k1, bnd_s, Mo_apart_l (h.sm k2) k3, bnd_s]
      exact endM h01 pc _ M1 f_Mo_members (fun s p e => by have := (scn_in e).1; exact ⟨by omega, members_ok (by omega) M1⟩)
    · exact ⟨M, by rw [if_neg h01, if_pos rfl, an2_no h01], Sm.rfl'⟩
/-- lamps of which every free cord turns an even number -/
def mkb (D : DT) (m : Nat) : Nat → Bool
  | 0 => true
  | k + 1 => mkb D m k && ((D (10 + D 7 0) 1).testBit k || decide (pc (D 3 k &&& m) % 2 = 0))
theorem mkb_s (D : DT) (m k : Nat) : mkb D m (k + 1) = (mkb D m k && ((D (10 + D 7 0) 1).testBit k || decide (pc (D 3 k &&& m) % 2 = 0))) := rfl
theorem mkb_no {D : DT} {m k : Nat} (h : mkb D m k = false) : ∀ d, mkb D m (k + d) = false := by
  intro d
  induction d with
  | zero => exact h
  | succ d ih => rw [← Nat.add_assoc, mkb_s, ih]; rfl
theorem mod2_I : ∀ n, n < 9 → (nI n % 2 = 0 ↔ n % 2 = 0) := by decide +kernel
theorem C_markL {D : DT} {N : AM} {p m : Nat} (hR : Rel D N) (h5 : gI N p 6 = nI (D 0 1)) (h6 : ∀ c, c < D 0 1 → gI N (p + 6) c = nI (D 3 c)) : f_Sets_leastMark_l23 p (nI (frN (D 0 1) (D (10 + D 7 0) 1))) (nI m) fu 1 0 N = some (if mkb D m (D 0 1) = true then 1 else 0, N) := by
  have hnc := hR.1.2.1
  have hfr := hR.fr'
  have h256 := p2_le hR.1.1
  have htb : ∀ c, c < D 0 1 → (frN (D 0 1) (D (10 + D 7 0) 1)).testBit c = !(D (10 + D 7 0) 1).testBit c := fun c hc => by
    rw [fr_tb _ (by omega) _ hR.tied' hR.tied c (by omega)]; simp [hc]
  have hand : ∀ c, c < D 0 1 → D 3 c &&& m < 256 := fun c hc => by
    have h1 : D 3 c &&& m ≤ D 3 c := Nat.and_le_left
    have h2 := (hR.1.2.2.2.2.2.2.2.1 c hc).1
    omega
  generalize frN (D 0 1) (D (10 + D 7 0) 1) = F at *
  have key : ∃ o, f_Sets_leastMark_l23 p (nI F) (nI m) fu 1 0 N = some o ∧ o = (if mkb D m (D 0 1) = true then 1 else 0, N) := by
    refine for_inv (fun z (s : Int32 × Int32 × AM) => f_Sets_leastMark_l23 p (nI F) (nI m) z s.1 s.2.1 s.2.2) (fun k s => s = (if mkb D m k = true then 1 else 0, nI k, N)) (D 0 1) _ (fun k s z hk hI => ?_) (fun s z hI => ?_) (D 0 1) 0 (1, 0, N) fu (by omega) (by rw [fu_eq]; omega) rfl
    · subst hI
      have hb : ∀ v, f_Sets_leastMark_l23 p (nI F) (nI m) (z + 1) v (nI k) N = if v = 0 then some (v, N) else if (D (10 + D 7 0) 1).testBit k = true then f_Sets_leastMark_l23 p (nI F) (nI m) z 1 (nI (k + 1)) N else if pc (D 3 k &&& m) % 2 = 0 then f_Sets_leastMark_l23 p (nI F) (nI m) z 1 (nI (k + 1)) N else f_Sets_leastMark_l23 p (nI F) (nI m) z 0 (nI (k + 1)) N := by
        intro v
        have l8 := pc_le (D 3 k &&& m)
        show f_Sets_leastMark_b23 (f_Sets_leastMark_l23 p (nI F) (nI m) z) p (nI F) (nI m) v (nI k) N = _
        unfold f_Sets_leastMark_b23 f_Sets_leastMark_j63
        rw [h5, if_neg (nI_ge hk (by omega)), nx_bit (by omega) (by omega), tb_mod, htb k hk, ald_nI (by omega) (by decide), h6 k hk, nx_and, bc_ok (hand k hk), bnd_s, nI_1]
        by_cases hv : v = 0
        · rw [if_pos hv, if_pos hv]
        · rw [if_neg hv, if_neg hv]
          by_cases ht : (D (10 + D 7 0) 1).testBit k = true
          · rw [ht]; simp only [Bool.not_true, if_true]; rfl
          · simp only [ht, Bool.not_false, if_true]
            rw [if_neg (by decide)]
            by_cases hm : pc (D 3 k &&& m) % 2 = 0
            · rw [if_pos ((mod2_I _ (by omega)).mpr hm), if_pos hm]; rfl
            · rw [if_neg (fun q => hm ((mod2_I _ (by omega)).mp q)), if_neg hm]; rfl
      by_cases hmk : mkb D m k = true
      · left
        refine ⟨_, rfl, ?_⟩
        show f_Sets_leastMark_l23 p (nI F) (nI m) (z + 1) (if mkb D m k = true then 1 else 0) (nI k) N = f_Sets_leastMark_l23 p (nI F) (nI m) z (if mkb D m (k + 1) = true then 1 else 0) (nI (k + 1)) N
        rw [hb, if_pos hmk, if_neg (by decide), mkb_s, hmk]
        by_cases ht : (D (10 + D 7 0) 1).testBit k = true
        · simp [ht]
        · by_cases hm : pc (D 3 k &&& m) % 2 = 0
          · simp [ht, hm]
          · simp [ht, hm]
      · right
        have hf : mkb D m k = false := by simpa using hmk
        have hf2 := mkb_no hf (D 0 1 - k)
        rw [show k + (D 0 1 - k) = D 0 1 by omega] at hf2
        refine ⟨(0, N), ?_, by rw [hf2]; rfl⟩
        show f_Sets_leastMark_l23 p (nI F) (nI m) (z + 1) (if mkb D m k = true then 1 else 0) (nI k) N = _
        rw [hb, if_neg hmk, if_pos rfl]
    · subst hI
      refine ⟨_, ?_, rfl⟩
      show f_Sets_leastMark_b23 (f_Sets_leastMark_l23 p (nI F) (nI m) z) p (nI F) (nI m) (if mkb D m (D 0 1) = true then 1 else 0) (nI (D 0 1)) N = _
      unfold f_Sets_leastMark_b23
      rw [h5, if_pos (nI_le (Nat.le_refl _) (by omega))]
  obtain ⟨o, k1, rfl⟩ := key
  exact k1
theorem Mo_markL {D : DT} {N : AM} {m : Nat} (hR : Rel D N) (b v : Int32) : f_Mo_mark_l31 b v (nI m) fu 1 0 N = some (if mkb D m (D 0 1) = true then 1 else 0, N) := by
  have hnc := hR.1.2.1
  have h256 := p2_le hR.1.1
  have hand : ∀ c, c < D 0 1 → D 3 c &&& m < 256 := fun c hc => by
    have h1 : D 3 c &&& m ≤ D 3 c := Nat.and_le_left
    have h2 := (hR.1.2.2.2.2.2.2.2.1 c hc).1
    omega
  exact for_up (fun z (s : Int32 × Int32 × AM) => f_Mo_mark_l31 b v (nI m) z s.1 s.2.1 s.2.2) (fun k => (if mkb D m k = true then 1 else 0, nI k, N)) (D 0 1) _
    (fun k z hk => by
      show f_Mo_mark_b31 (f_Mo_mark_l31 b v (nI m) z) b v (nI m) (if mkb D m k = true then 1 else 0) (nI k) N = f_Mo_mark_l31 b v (nI m) z (if mkb D m (k + 1) = true then 1 else 0) (nI (k + 1)) N
      unfold f_Mo_mark_b31 f_Mo_mark_j71
      have l8 := pc_le (D 3 k &&& m)
      have hk2 := hand k hk
      rw [hR.2.2.2.2.2.1.1.2.2.1, if_neg (nI_ge hk (by omega)), isTied_ok hR (by omega), bnd_s, ald_nI (by omega) (by decide), (hR.2.2.2.2.2.1.2.2.1 k hk).1, nx_and, Nat.and_comm m, members_ok (by omega), bnd_s, nI_1, mkb_s]
      by_cases hmk : mkb D m k = true
      · rw [if_pos hmk, if_neg (by decide), hmk]
        by_cases ht : (D (10 + D 7 0) 1).testBit k = true
        · rw [if_pos ht, if_neg (by decide)]; simp [ht]
        · rw [if_neg ht, if_pos rfl]
          by_cases hm : pc (D 3 k &&& m) % 2 = 0
          · rw [if_pos ((mod2_I _ (by omega)).mpr hm)]; simp [hm]
          · rw [if_neg (fun q => hm ((mod2_I _ (by omega)).mp q))]; simp [ht, hm]
      · rw [if_neg hmk, if_pos rfl]
        have hf : mkb D m k = false := by simpa using hmk
        simp [hf])
    (fun z => by
      show f_Mo_mark_b31 (f_Mo_mark_l31 b v (nI m) z) b v (nI m) (if mkb D m (D 0 1) = true then 1 else 0) (nI (D 0 1)) N = _
      unfold f_Mo_mark_b31
      rw [hR.2.2.2.2.2.1.1.2.2.1, if_pos (nI_le (Nat.le_refl _) (by omega))]) (D 0 1) 0 fu (by omega) (by rw [fu_eq]; omega)
def mkc (D : DT) (m : Nat) : Option Int32 := if m ≠ 0 ∧ mkb D m (D 0 1) = true then some (nI (pc m)) else none
theorem mkc_some {D : DT} {d : Nat} {s : Int32} (h : mkc D d = some s) : (d ≠ 0 ∧ mkb D d (D 0 1) = true) ∧ s = nI (pc d) := by
  unfold mkc at h
  by_cases q : d ≠ 0 ∧ mkb D d (D 0 1) = true
  · rw [if_pos q] at h; cases h; exact ⟨q, rfl⟩
  · rw [if_neg q] at h; cases h
theorem mkc_none {D : DT} {d : Nat} (h : mkc D d = none) (h0 : d ≠ 0) : ¬ mkb D d (D 0 1) = true := by
  intro q
  unfold mkc at h
  rw [if_pos ⟨h0, q⟩] at h; cases h
theorem leastMark_ok {D : DT} {M : AM} (h : Rel D M) : ∃ M1, f_Sets_leastMark (gR M 0 3) (nI (frN (D 0 1) (D (10 + D 7 0) 1))) M = some (bp (scn (mkc D) (2 ^ D 0 0)), M1) ∧ Sm M M1 := by
  obtain ⟨M0, c1, c2, c3⟩ := clear_ok M
  have h256l := p2_le h.1.1
  have h0 := p2_pos (D 0 0)
  have hview : ∀ N, Sm M N → VW D N (gR M 0 3) (gR M 39 (D 7 0)) ∧ Rel D N := fun N hN => h.view hN
  generalize gR M 0 3 = p at *
  generalize gR M 39 (D 7 0) = r at *
  obtain ⟨o, M1, k1, k2, k3, k4⟩ := best_loop (M := M) (M0 := M0) (f_Sets_leastMark_l9 p (nI (frN (D 0 1) (D (10 + D 7 0) 1)))) 1 (2 ^ D 0 0) (fun m => if mkb D m (D 0 1) = true then some (nI (pc m), m) else none) (by omega) (by omega) c3 c2
    (fun k z N h1 h2 hN hc => by
      obtain ⟨⟨v1, v2, v3, v4, v5, v6, v7⟩, hR⟩ := hview N hN
      refine ⟨N, ?_, Sm.rfl', fun j => rfl⟩
      have hq : ¬ mkb D k (D 0 1) = true := fun q => by rw [if_pos q] at hc; cases hc
      show f_Sets_leastMark_b9 (f_Sets_leastMark_l9 p (nI (frN (D 0 1) (D (10 + D 7 0) 1))) z) p (nI (frN (D 0 1) (D (10 + D 7 0) 1))) (nI k) N = _
      unfold f_Sets_leastMark_b9
      rw [v7, bnd_s, if_neg (nI_ge h2 (by omega)), C_markL hR v5 (fun c hc => (v6 c hc).1), bnd_s, if_neg hq, if_pos rfl, nI_1])
    (fun k z N x q h1 h2 hN hc => by
      obtain ⟨⟨v1, v2, v3, v4, v5, v6, v7⟩, hR⟩ := hview N hN
      by_cases hq : mkb D k (D 0 1) = true
      · rw [if_pos hq] at hc
        cases hc
        refine ⟨by omega, N, ?_, Sm.rfl', fun j => rfl⟩
        show f_Sets_leastMark_b9 (f_Sets_leastMark_l9 p (nI (frN (D 0 1) (D (10 + D 7 0) 1))) z) p (nI (frN (D 0 1) (D (10 + D 7 0) 1))) (nI k) N = _
        unfold f_Sets_leastMark_b9
        rw [v7, bnd_s, if_neg (nI_ge h2 (by omega)), C_markL hR v5 (fun c hc => (v6 c hc).1), bnd_s, if_pos hq, if_neg (by decide), bc_ok (by omega), bnd_s, nI_1]
      · rw [if_neg hq] at hc; cases hc)
    (fun z N hN => by
      obtain ⟨⟨v1, v2, v3, v4, v5, v6, v7⟩, hR⟩ := hview N hN
      show f_Sets_leastMark_b9 (f_Sets_leastMark_l9 p (nI (frN (D 0 1) (D (10 + D 7 0) 1))) z) p (nI (frN (D 0 1) (D (10 + D 7 0) 1))) (nI (2 ^ D 0 0)) N = _
      unfold f_Sets_leastMark_b9
      rw [v7, bnd_s, if_pos (nI_le (Nat.le_refl _) (by omega))])
  have ho : o = scn (mkc D) (2 ^ D 0 0) := by
    refine k1.uni ((scn_ok (mkc D) _).ext (fun s q => ⟨?_, ?_⟩))
    · rintro ⟨h1, h2⟩
      obtain ⟨⟨h3, h4⟩, rfl⟩ := mkc_some h2
      exact ⟨q, by omega, h1, if_pos h4⟩
    · rintro ⟨k, x1, x2, x3⟩
      by_cases hq : mkb D k (D 0 1) = true
      · rw [if_pos hq] at x3
        cases x3
        exact ⟨x2, if_pos ⟨by omega, hq⟩⟩
      · rw [if_neg hq] at x3; cases x3
  refine ⟨M1, ?_, k4⟩
  unfold f_Sets_leastMark
  rw [c1, bnd_s, show f_Sets_leastMark_l9 p (nI (frN (D 0 1) (D (10 + D 7 0) 1))) fu 1 M0 = f_Sets_leastMark_l9 p (nI (frN (D 0 1) (D (10 + D 7 0) 1))) fu (nI 1) M0 from rfl, k3, bnd_s, k2.1, ho]
theorem Mo_mark_l {D : DT} {N : AM} (hN : Rel D N) (b : Int32) : f_Mo_mark_l15 b fu (-1) 1 N = some (bp (scn (mkc D) (2 ^ D 0 0)), N) := by
  have h256l := p2_le hN.1.1
  have hnl := hN.1.1
  have hp0 := p2_pos (D 0 0)
  have h0 : (1 : Int32) = nI 1 := rfl
  rw [h0]
  refine scan_up (f_Mo_mark_l15 b) 1 (2 ^ D 0 0) (mkc D) (by omega) (by omega) (scn_n (k := 0) (if_neg (fun q => q.1 rfl))) (fun k z v h1 h2 hc => ?_) (fun k z s h1 h2 hc => ?_) (fun k z s s0 p0 h1 h2 hc hp hc0 => ?_) (fun z v => ?_)
  · have q := mkc_none hc (by omega)
    show f_Mo_mark_b15 (f_Mo_mark_l15 b z) b v (nI k) N = _
    unfold f_Mo_mark_b15
    rw [hN.2.2.2.2.2.1.1.1, nx_one _ (by omega), if_neg (nI_ge h2 (by omega)), Mo_markL hN, bnd_s, if_neg q, if_pos rfl, nI_1]
  · have q := mkc_some hc
    show f_Mo_mark_b15 (f_Mo_mark_l15 b z) b (-1) (nI k) N = _
    unfold f_Mo_mark_b15
    rw [hN.2.2.2.2.2.1.1.1, nx_one _ (by omega), if_neg (nI_ge h2 (by omega)), Mo_markL hN, bnd_s, if_pos q.1.2, if_neg (by decide), if_pos (by decide), nI_1]
  · have q := mkc_some hc
    have q0 := mkc_some hc0
    have l1 := pc_le k
    have l2 := pc_le p0
    show f_Mo_mark_b15 (f_Mo_mark_l15 b z) b (nI p0) (nI k) N = _
    unfold f_Mo_mark_b15
    rw [hN.2.2.2.2.2.1.1.1, nx_one _ (by omega), if_neg (nI_ge h2 (by omega)), Mo_markL hN, bnd_s, if_pos q.1.2, if_neg (by decide), if_neg (nI_pos (by omega)), members_ok (by omega), bnd_s, members_ok (by omega), bnd_s, nI_1, q.2, q0.2]
    by_cases w : pc p0 ≤ pc k
    · rw [if_pos (nI_le w (by omega)), if_neg (nI_nlt w (by omega))]
    · rw [if_neg (nI_ge (by omega) (by omega)), if_pos (nI_lt (by omega) (by omega))]
  · show f_Mo_mark_b15 (f_Mo_mark_l15 b z) b v (nI (2 ^ D 0 0)) N = _
    unfold f_Mo_mark_b15
    rw [hN.2.2.2.2.2.1.1.1, nx_one _ (by omega), if_pos (nI_le (Nat.le_refl _) (by omega))]
theorem B_mark (b : Int32) : Both (f_C_mark b) (f_Mo_mark b) := by
  refine Both.of (fun D => an2 b (fun p => nI (pc p)) (scn (mkc D) (2 ^ D 0 0))) (fun D M h => ?_) (fun D M h => ?_)
  · obtain ⟨M1, k1, k2⟩ := leastMark_ok h
    have h256l := p2_le h.1.1
    refine ⟨M1, ?_, k2⟩
    unfold f_C_mark
    rw [ckK_eq (pl_kd h), C_free_ok h, bnd_s, k1, bnd_s]
    exact endC b pc _ M1 f_Int_bitCount (fun s p e => by have := (scn_in e).1; exact ⟨by omega, bc_ok (by omega) M1⟩)
  · have h256l := p2_le h.1.1
    unfold f_Mo_mark
    rw [isIn01, bnd_s]
    by_cases h01 : b = 0 ∨ b = 1
    · refine ⟨M, ?_, Sm.rfl'⟩
      rw [if_pos h01, if_neg (by decide), Mo_mark_l h, bnd_s]
      exact endM h01 pc _ M f_Mo_members (fun s p e => by have := (scn_in e).1; exact ⟨by omega, members_ok (by omega) M⟩)
    · exact ⟨M, by rw [if_neg h01, if_pos rfl, an2_no h01], Sm.rfl'⟩
