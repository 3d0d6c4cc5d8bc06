/-- when a picture comes again -/
def agm (D : DT) : Nat → Nat → Int32
  | 0, _ => -1
  | k + 1, j => if j = wlp D 0 k then nI k else agm D k j
theorem agm_s (D : DT) (k j : Nat) : agm D (k + 1) j = if j = wlp D 0 k then nI k else agm D k j := rfl
def agr (D : DT) : Nat → Nat → Option (Int32 × Int32)
  | 0, _ => none
  | r + 1, k => if agm D k (wlp D 0 k) < 0 then agr D r (k + 1) else some (nI k, agm D k (wlp D 0 k))
theorem agr_s (D : DT) (r k : Nat) : agr D (r + 1) k = if agm D k (wlp D 0 k) < 0 then agr D r (k + 1) else some (nI k, agm D k (wlp D 0 k)) := rfl
/-- a row filled with one number -/
def fil (M : AM) (c : Nat) (v : Int32) : Nat → AM
  | 0 => M
  | k + 1 => sI (fil M c v k) c k v
theorem fil_I (M : AM) (c : Nat) (v : Int32) : ∀ k a b, gI (fil M c v k) a b = if a = c ∧ b < k then v else gI M a b := by
  intro k
  induction k with
  | zero => intro a b; rw [if_neg (by omega)]; rfl
  | succ k ih =>
    intro a b
    show gI (sI _ _ _ _) a b = _
    rw [gI_sI, ih]
    by_cases h : a = c ∧ b = k
    · rw [if_pos h, if_pos (by omega)]
    · rw [if_neg h]
      by_cases h2 : a = c ∧ b < k
      · rw [if_pos h2, if_pos (by omega)]
      · rw [if_neg h2, if_neg (by omega)]
theorem fil_R (M : AM) (c : Nat) (v : Int32) : ∀ k a b, gR (fil M c v k) a b = gR M a b := by
  intro k
  induction k with
  | zero => intro a b; rfl
  | succ k ih => intro a b; exact ih a b
theorem fil_sm (M : AM) (c : Nat) (v : Int32) (k : Nat) (h : ∀ j, scr c j) : Sm M (fil M c v k) := ⟨fil_R M c v k, fun a b q => by rw [fil_I, if_neg (fun z => q (by rw [z.1]; exact h b))]⟩
theorem C_againL2 (a : Int32) (M : AM) : f_C_again_l2 a fu 0 M = some ((), fil M 104 (-1) 256) :=
  for_up (fun z (s : Int32 × AM) => f_C_again_l2 a z s.1 s.2) (fun k => (nI k, fil M 104 (-1) k)) 256 _
    (fun k z hk => by
      show f_C_again_b2 (f_C_again_l2 a z) a (nI k) (fil M 104 (-1) k) = _
      unfold f_C_again_b2
      rw [nI_lit 256, if_neg (nI_ge hk (by decide)), ast_nI hk (by decide), nI_1]
      rfl)
    (fun z => by
      show f_C_again_b2 (f_C_again_l2 a z) a (nI 256) (fil M 104 (-1) 256) = _
      unfold f_C_again_b2
      rw [nI_lit 256, if_pos (nI_le (Nat.le_refl _) (by decide))]) 256 0 fu rfl (by rw [fu_eq]; decide)
theorem Mo_againL13 (a : Int32) (M : AM) : f_Mo_again_l13 a fu 0 M = some ((), fil M 131 (-1) 256) :=
  for_up (fun z (s : Int32 × AM) => f_Mo_again_l13 a z s.1 s.2) (fun k => (nI k, fil M 131 (-1) k)) 256 _
    (fun k z hk => by
      show f_Mo_again_b13 (f_Mo_again_l13 a z) a (nI k) (fil M 131 (-1) k) = _
      unfold f_Mo_again_b13
      rw [nI_lit 256, if_neg (nI_ge hk (by decide)), ast_nI hk (by decide), nI_1]
      rfl)
    (fun z => by
      show f_Mo_again_b13 (f_Mo_again_l13 a z) a (nI 256) (fil M 131 (-1) 256) = _
      unfold f_Mo_again_b13
      rw [nI_lit 256, if_pos (nI_le (Nat.le_refl _) (by decide))]) 256 0 fu rfl (by rw [fu_eq]; decide)
def aga (D : DT) (a : Int32) : Int32 := match agr D 301 0 with
  | none => -1
  | some (x, y) => if a = 0 then x else if a = 1 then y else -1
theorem nlt300 {k : Nat} (h : k < 301) : ¬ (300 : Int32) < nI k := nI_nlt (a := 300) (by omega) (by decide)
theorem C_again_ok {D : DT} {M : AM} (h : Rel D M) (a : Int32) : ∃ M1, f_C_again a M = some (aga D a, M1) ∧ Rel D M1 := by
  have h256 := p2_le h.1.1
  unfold f_C_again
  have h1 : Rel D (fil M 104 (-1) 256) := h.sm (fil_sm _ _ _ _ (fun j => by unfold scr; omega))
  obtain ⟨M2, b1, b2, b3, b4⟩ := trial_0 h1 0
  have key : ∃ o, f_C_again_l40 a fu 0 M2 = some o ∧ (∃ N, Rel D N ∧ o = match agr D 301 0 with | none => .inl ((), N) | some (x, y) => .inr (if a = 0 then x else if a = 1 then y else -1, N)) := by
    refine for_inv (fun z (s : Int32 × AM) => f_C_again_l40 a z s.1 s.2) (fun k s => s.1 = nI k ∧ Rel D s.2 ∧ TRI D 0 k s.2 ∧ (∀ j, j < 256 → gI s.2 104 j = agm D k j) ∧ agr D 301 0 = agr D (301 - k) k) 301 _ (fun k s z hk hI => ?_) (fun s z hI => ?_) 301 0 (0, M2) fu (by omega) (by rw [fu_eq]; omega) ⟨rfl, b2, b3, fun j hj => by show gI M2 104 j = -1; rw [b4 _ _ (by omega), fil_I, if_pos ⟨rfl, hj⟩], rfl⟩
    · obtain ⟨v, N⟩ := s
      obtain ⟨rfl, i1, i2, i3, i4⟩ := hI
      simp only at i1 i2 i3
      have hw := wlp_lt h 0 k
      replace i4 : agr D 301 0 = if agm D k (wlp D 0 k) < 0 then agr D (300 - k) (k + 1) else some (nI k, agm D k (wlp D 0 k)) := by rw [i4, show 301 - k = (300 - k) + 1 by omega, agr_s]
      have hbody : f_C_again_l40 a (z + 1) (nI k) N = if agm D k (wlp D 0 k) < 0 then bnd (f_State_passDusk 81 (gR N 0 3) (nI 0) (sI N 104 (wlp D 0 k) (nI k))) (fun r4 M5 => f_C_again_l40 a z (nI (k + 1)) M5) else some (.inr (if a = 0 then nI k else if a = 1 then agm D k (wlp D 0 k) else -1, N)) := by
        show f_C_again_b40 (f_C_again_l40 a z) a (nI k) N = _
        unfold f_C_again_b40
        rw [if_neg (nlt300 hk), i2.1, ald_nI (by omega) (by decide), i3 _ (by omega), ast_nI (by omega) (by decide), ald_nI (by omega) (by decide), i3 _ (by omega), either_eq, bnd_s, gR_sI, ckK_eq (pl_kd i1), nI_1]
        rfl
      by_cases hneg : agm D k (wlp D 0 k) < 0
      · left
        have i1' : Rel D (sI N 104 (wlp D 0 k) (nI k)) := i1.sm (Sm.rfl'.sI (by unfold scr; omega))
        obtain ⟨N', w1, w2, w3, w4⟩ := trial_1 i1' (g := 0) (k := k) (by omega) (by omega) i2
        refine ⟨(nI (k + 1), N'), ⟨rfl, w2, w3, fun j hj => ?_, ?_⟩, ?_⟩
        · show gI N' 104 j = _
          rw [w4 _ _ rfl, gI_sI, agm_s]
          by_cases hj2 : j = wlp D 0 k
          · rw [if_pos ⟨rfl, hj2⟩, if_pos hj2]
          · rw [if_neg (by omega), if_neg hj2]; exact i3 j hj
        · rw [i4, if_pos hneg, show 301 - (k + 1) = 300 - k by omega]
        · rw [hbody, if_pos hneg]
          rw [gR_sI] at w1
          rw [w1, bnd_s]
      · right
        refine ⟨_, hbody.trans (if_neg hneg), N, i1, ?_⟩
        rw [i4, if_neg hneg]
    · obtain ⟨v, N⟩ := s
      obtain ⟨rfl, i1, i2, i3, i4⟩ := hI
      simp only at i1
      refine ⟨.inl ((), N), ?_, N, i1, by rw [i4]; rfl⟩
      show f_C_again_b40 (f_C_again_l40 a z) a (nI 301) N = _
      unfold f_C_again_b40
      rw [if_pos (by decide)]
  obtain ⟨o, k1, N, k2, k3⟩ := key
  refine ⟨N, ?_, k2⟩
  rw [C_againL2, bnd_s, cur_ok h1, bnd_s, b1, bnd_s, k1, k3]
  unfold aga
  cases hz : agr D 301 0 with
  | none => rfl
  | some q => rfl
theorem Mo_again_ok {D : DT} {M : AM} (h : Rel D M) (a : Int32) : ∃ M1, f_Mo_again a M = some (aga D a, M1) ∧ Rel D M1 := by
  have h256 := p2_le h.1.1
  unfold f_Mo_again
  rw [isIn01, bnd_s]
  by_cases h01 : a = 0 ∨ a = 1
  · have h1 : Rel D (fil M 131 (-1) 256) := h.sm (fil_sm _ _ _ _ (fun j => by unfold scr; omega))
    have key : ∃ o, f_Mo_again_l42 a fu (nI (wlp D 0 0)) 0 (fil M 131 (-1) 256) = some o ∧ (∃ N, Rel D N ∧ o = match agr D 301 0 with | none => .inl ((), N) | some (x, y) => .inr (if a = 0 then x else if a = 1 then y else -1, N)) := by
      refine for_inv (fun z (s : Int32 × Int32 × AM) => f_Mo_again_l42 a z s.1 s.2.1 s.2.2) (fun k s => s.1 = nI (wlp D 0 k) ∧ s.2.1 = nI k ∧ Rel D s.2.2 ∧ (∀ j, j < 256 → gI s.2.2 131 j = agm D k j) ∧ agr D 301 0 = agr D (301 - k) k) 301 _ (fun k s z hk hI => ?_) (fun s z hI => ?_) 301 0 (nI (wlp D 0 0), 0, fil M 131 (-1) 256) fu (by omega) (by rw [fu_eq]; omega) ⟨rfl, rfl, h1, fun j hj => by show gI (fil M 131 (-1) 256) 131 j = -1; rw [fil_I, if_pos ⟨rfl, hj⟩], rfl⟩
      · obtain ⟨v, v2, N⟩ := s
        obtain ⟨rfl, rfl, i1, i3, i4⟩ := hI
        simp only at i1 i3
        have hw := wlp_lt h 0 k
        replace i4 : agr D 301 0 = if agm D k (wlp D 0 k) < 0 then agr D (300 - k) (k + 1) else some (nI k, agm D k (wlp D 0 k)) := by rw [i4, show 301 - k = (300 - k) + 1 by omega, agr_s]
        have hbody : f_Mo_again_l42 a (z + 1) (nI (wlp D 0 k)) (nI k) N = if agm D k (wlp D 0 k) < 0 then bnd (f_Mo_duskOf (nI (wlp D 0 k)) (nI (D (10 + D 7 0) 3 + k)) (sI N 131 (wlp D 0 k) (nI k))) (fun r4 M5 => f_Mo_again_l42 a z r4 (nI (k + 1)) M5) else some (.inr (if a = 0 then nI k else if a = 1 then agm D k (wlp D 0 k) else -1, N)) := by
          show f_Mo_again_b42 (f_Mo_again_l42 a z) a (nI (wlp D 0 k)) (nI k) N = _
          unfold f_Mo_again_b42
          rw [if_neg (nlt300 hk), ald_nI (by omega) (by decide), i3 _ (by omega), ast_nI (by omega) (by decide), ald_nI (by omega) (by decide), i3 _ (by omega), nI_lit 3, ald_nI (by decide) (by decide), show gI (sI N 131 (wlp D 0 k) (nI k)) 123 3 = nI (D (10 + D 7 0) 3) from now_ok i1 (by decide), nI_add, nI_1]
          by_cases hneg : agm D k (wlp D 0 k) < 0
          · rw [if_pos hneg, if_pos hneg]
          · rw [if_neg hneg, if_neg hneg]
            by_cases h0 : a = 0
            · rw [if_pos h0, if_pos h0]
            · rw [if_neg h0, if_neg h0, if_pos (h01.resolve_left h0)]
        by_cases hneg : agm D k (wlp D 0 k) < 0
        · left
          have i1' : Rel D (sI N 131 (wlp D 0 k) (nI k)) := i1.sm (Sm.rfl'.sI (by unfold scr; omega))
          obtain ⟨N', w1, w2, w3, w4⟩ := duskOf_rel (night := D (10 + D 7 0) 3 + k) i1' hw
          refine ⟨(nI (wlp D 0 (k + 1)), nI (k + 1), N'), ⟨rfl, rfl, w2, fun j hj => ?_, ?_⟩, ?_⟩
          · show gI N' 131 j = _
            rw [w3 _ _ (by omega) (by omega), gI_sI, agm_s]
            by_cases hj2 : j = wlp D 0 k
            · rw [if_pos ⟨rfl, hj2⟩, if_pos hj2]
            · rw [if_neg (by omega), if_neg hj2]; exact i3 j hj
          · rw [i4, if_pos hneg, show 301 - (k + 1) = 300 - k by omega]
          · rw [hbody, if_pos hneg, w1, bnd_s]
            rfl
        · right
          refine ⟨_, hbody.trans (if_neg hneg), N, i1, ?_⟩
          rw [i4, if_neg hneg]
      · obtain ⟨v, v2, N⟩ := s
        obtain ⟨rfl, rfl, i1, i3, i4⟩ := hI
        simp only at i1
        refine ⟨.inl ((), N), ?_, N, i1, by rw [i4]; rfl⟩
        show f_Mo_again_b42 (f_Mo_again_l42 a z) a (nI (wlp D 0 301)) (nI 301) N = _
        unfold f_Mo_again_b42
        rw [if_pos (by decide)]
    obtain ⟨o, k1, N, k2, k3⟩ := key
    refine ⟨N, ?_, k2⟩
    rw [if_pos h01, if_neg (by decide), Mo_againL13, bnd_s, now_ald h1 0 0 rfl (by decide), show nI (D (10 + D 7 0) 0) = nI (wlp D 0 0) from rfl, k1, k3]
    unfold aga
    cases hz : agr D 301 0 with
    | none => rfl
    | some q => rfl
  · refine ⟨M, ?_, h⟩
    rw [if_neg h01, if_pos rfl]
    unfold aga
    cases hz : agr D 301 0 with
    | none => rfl
    | some q =>
      show _ = some (if a = 0 then q.1 else if a = 1 then q.2 else -1, M)
      rw [if_neg (fun q => h01 (Or.inl q)), if_neg (fun q => h01 (Or.inr q))]
theorem B_again (a : Int32) : Both (f_C_again a) (f_Mo_again a) := Both.ofR (fun D => aga D a) (fun D M h => C_again_ok h a) (fun D M h => Mo_again_ok h a)
