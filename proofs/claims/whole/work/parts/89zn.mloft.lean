/-! the reference takes what is told -/
theorem lft98 {M : AM} {n : Nat} (hn : n ≤ 320) (hb : gI M 105 18 = nI n) : ∃ K, f_Mo_loft_l98 fu 0 M = some ((), K) ∧ (∀ c k, gR K c k = gR M c k) ∧ (∀ c k, ¬ (c = 110 ∨ c = 111) → gI K c k = gI M c k) ∧ (∀ k, k < n → gI K 110 k = gI M 108 k ∧ gI K 111 k = gI M 109 k) := by
  have key : ∃ o, f_Mo_loft_l98 fu 0 M = some o ∧ ((∀ c k, gR o.2 c k = gR M c k) ∧ (∀ c k, ¬ (c = 110 ∨ c = 111) → gI o.2 c k = gI M c k) ∧ (∀ k, k < n → gI o.2 110 k = gI M 108 k ∧ gI o.2 111 k = gI M 109 k)) := by
    refine for_inv (fun y (s : Int32 × AM) => f_Mo_loft_l98 y s.1 s.2) (fun j s => s.1 = nI j ∧ (∀ c k, gR s.2 c k = gR M c k) ∧ (∀ c k, ¬ (c = 110 ∨ c = 111) → gI s.2 c k = gI M c k) ∧ (∀ k, k < j → gI s.2 110 k = gI M 108 k ∧ gI s.2 111 k = gI M 109 k)) n _ (fun j s y hj hI => ?_) (fun s y hI => ?_) n 0 (0, M) fu (by omega) (by rw [fu_eq]; omega) ⟨rfl, fun _ _ => rfl, fun _ _ _ => rfl, fun l hl => by omega⟩
    · obtain ⟨v, J⟩ := s
      obtain ⟨rfl, i1, i2, i3⟩ := hI
      simp only at i1 i2 i3
      left
      have e0 : gI J 105 18 = nI n := by rw [i2 _ _ (by omega)]; exact hb
      refine ⟨(nI (j + 1), sI (sI J 110 j (gI J 108 j)) 111 j (gI J 109 j)), ⟨rfl, i1, fun c k q => by rw [gI_sI, if_neg (by omega), gI_sI, if_neg (by omega)]; exact i2 c k q, fun l hl => ?_⟩, ?_⟩
      · show gI (sI (sI J 110 j (gI J 108 j)) 111 j (gI J 109 j)) 110 l = _ ∧ gI (sI (sI J 110 j (gI J 108 j)) 111 j (gI J 109 j)) 111 l = _
        by_cases e : l = j
        · rw [e, gI_sI, if_neg (by omega), gI_sI, if_pos ⟨rfl, rfl⟩, gI_sI, if_pos ⟨rfl, rfl⟩]
          exact ⟨i2 _ _ (by omega), i2 _ _ (by omega)⟩
        · rw [gI_sI, if_neg (by omega), gI_sI, if_neg (fun q => e q.2), gI_sI, if_neg (fun q => e q.2), gI_sI, if_neg (by omega)]
          exact i3 l (by omega)
      · show f_Mo_loft_b98 (f_Mo_loft_l98 y) (nI j) J = _
        unfold f_Mo_loft_b98
        rw [e0, if_neg (nI_ge hj (by omega)), ald_nI (by omega) (by decide), ast_nI (by omega) (by decide), ald_nI (by omega) (by decide), ast_nI (by omega) (by decide), nI_1]
        rfl
    · obtain ⟨v, J⟩ := s
      obtain ⟨rfl, i1, i2, i3⟩ := hI
      simp only at i1 i2 i3
      have e0 : gI J 105 18 = nI n := by rw [i2 _ _ (by omega)]; exact hb
      refine ⟨((), J), ?_, i1, i2, i3⟩
      show f_Mo_loft_b98 (f_Mo_loft_l98 y) (nI n) J = _
      unfold f_Mo_loft_b98
      rw [e0, if_pos (nI_le (Nat.le_refl _) (by omega))]
  obtain ⟨⟨u, K⟩, k1, k2⟩ := key
  exact ⟨K, k1, k2⟩
theorem lft138 {M : AM} {n : Nat} (hn : n ≤ 8) (hb : gI M 105 41 = nI n) : ∃ K, f_Mo_loft_l138 fu 0 M = some ((), K) ∧ (∀ c k, gR K c k = gR M c k) ∧ (∀ c k, ¬ (c = 119 ∨ c = 120) → gI K c k = gI M c k) ∧ (∀ k, k < n → gI K 119 k = gI M 115 k ∧ gI K 120 k = gI M 116 k) := by
  have key : ∃ o, f_Mo_loft_l138 fu 0 M = some o ∧ ((∀ c k, gR o.2 c k = gR M c k) ∧ (∀ c k, ¬ (c = 119 ∨ c = 120) → gI o.2 c k = gI M c k) ∧ (∀ k, k < n → gI o.2 119 k = gI M 115 k ∧ gI o.2 120 k = gI M 116 k)) := by
    refine for_inv (fun y (s : Int32 × AM) => f_Mo_loft_l138 y s.1 s.2) (fun j s => s.1 = nI j ∧ (∀ c k, gR s.2 c k = gR M c k) ∧ (∀ c k, ¬ (c = 119 ∨ c = 120) → gI s.2 c k = gI M c k) ∧ (∀ k, k < j → gI s.2 119 k = gI M 115 k ∧ gI s.2 120 k = gI M 116 k)) n _ (fun j s y hj hI => ?_) (fun s y hI => ?_) n 0 (0, M) fu (by omega) (by rw [fu_eq]; omega) ⟨rfl, fun _ _ => rfl, fun _ _ _ => rfl, fun l hl => by omega⟩
    · obtain ⟨v, J⟩ := s
      obtain ⟨rfl, i1, i2, i3⟩ := hI
      simp only at i1 i2 i3
      left
      have e0 : gI J 105 41 = nI n := by rw [i2 _ _ (by omega)]; exact hb
      refine ⟨(nI (j + 1), sI (sI J 119 j (gI J 115 j)) 120 j (gI J 116 j)), ⟨rfl, i1, fun c k q => by rw [gI_sI, if_neg (by omega), gI_sI, if_neg (by omega)]; exact i2 c k q, fun l hl => ?_⟩, ?_⟩
      · show gI (sI (sI J 119 j (gI J 115 j)) 120 j (gI J 116 j)) 119 l = _ ∧ gI (sI (sI J 119 j (gI J 115 j)) 120 j (gI J 116 j)) 120 l = _
        by_cases e : l = j
        · rw [e, gI_sI, if_neg (by omega), gI_sI, if_pos ⟨rfl, rfl⟩, gI_sI, if_pos ⟨rfl, rfl⟩]
          exact ⟨i2 _ _ (by omega), i2 _ _ (by omega)⟩
        · rw [gI_sI, if_neg (by omega), gI_sI, if_neg (fun q => e q.2), gI_sI, if_neg (fun q => e q.2), gI_sI, if_neg (by omega)]
          exact i3 l (by omega)
      · show f_Mo_loft_b138 (f_Mo_loft_l138 y) (nI j) J = _
        unfold f_Mo_loft_b138
        rw [e0, if_neg (nI_ge hj (by omega)), ald_nI (by omega) (by decide), ast_nI (by omega) (by decide), ald_nI (by omega) (by decide), ast_nI (by omega) (by decide), nI_1]
        rfl
    · obtain ⟨v, J⟩ := s
      obtain ⟨rfl, i1, i2, i3⟩ := hI
      simp only at i1 i2 i3
      have e0 : gI J 105 41 = nI n := by rw [i2 _ _ (by omega)]; exact hb
      refine ⟨((), J), ?_, i1, i2, i3⟩
      show f_Mo_loft_b138 (f_Mo_loft_l138 y) (nI n) J = _
      unfold f_Mo_loft_b138
      rw [e0, if_pos (nI_le (Nat.le_refl _) (by omega))]
  obtain ⟨⟨u, K⟩, k1, k2⟩ := key
  exact ⟨K, k1, k2⟩
theorem lft178 {M : AM} {n : Nat} (hn : n ≤ 8) (hb : gI M 105 42 = nI n) : ∃ K, f_Mo_loft_l178 fu 0 M = some ((), K) ∧ (∀ c k, gR K c k = gR M c k) ∧ (∀ c k, ¬ (c = 121 ∨ c = 122) → gI K c k = gI M c k) ∧ (∀ k, k < n → gI K 121 k = gI M 117 k ∧ gI K 122 k = gI M 118 k) := by
  have key : ∃ o, f_Mo_loft_l178 fu 0 M = some o ∧ ((∀ c k, gR o.2 c k = gR M c k) ∧ (∀ c k, ¬ (c = 121 ∨ c = 122) → gI o.2 c k = gI M c k) ∧ (∀ k, k < n → gI o.2 121 k = gI M 117 k ∧ gI o.2 122 k = gI M 118 k)) := by
    refine for_inv (fun y (s : Int32 × AM) => f_Mo_loft_l178 y s.1 s.2) (fun j s => s.1 = nI j ∧ (∀ c k, gR s.2 c k = gR M c k) ∧ (∀ c k, ¬ (c = 121 ∨ c = 122) → gI s.2 c k = gI M c k) ∧ (∀ k, k < j → gI s.2 121 k = gI M 117 k ∧ gI s.2 122 k = gI M 118 k)) n _ (fun j s y hj hI => ?_) (fun s y hI => ?_) n 0 (0, M) fu (by omega) (by rw [fu_eq]; omega) ⟨rfl, fun _ _ => rfl, fun _ _ _ => rfl, fun l hl => by omega⟩
    · obtain ⟨v, J⟩ := s
      obtain ⟨rfl, i1, i2, i3⟩ := hI
      simp only at i1 i2 i3
      left
      have e0 : gI J 105 42 = nI n := by rw [i2 _ _ (by omega)]; exact hb
      refine ⟨(nI (j + 1), sI (sI J 121 j (gI J 117 j)) 122 j (gI J 118 j)), ⟨rfl, i1, fun c k q => by rw [gI_sI, if_neg (by omega), gI_sI, if_neg (by omega)]; exact i2 c k q, fun l hl => ?_⟩, ?_⟩
      · show gI (sI (sI J 121 j (gI J 117 j)) 122 j (gI J 118 j)) 121 l = _ ∧ gI (sI (sI J 121 j (gI J 117 j)) 122 j (gI J 118 j)) 122 l = _
        by_cases e : l = j
        · rw [e, gI_sI, if_neg (by omega), gI_sI, if_pos ⟨rfl, rfl⟩, gI_sI, if_pos ⟨rfl, rfl⟩]
          exact ⟨i2 _ _ (by omega), i2 _ _ (by omega)⟩
        · rw [gI_sI, if_neg (by omega), gI_sI, if_neg (fun q => e q.2), gI_sI, if_neg (fun q => e q.2), gI_sI, if_neg (by omega)]
          exact i3 l (by omega)
      · show f_Mo_loft_b178 (f_Mo_loft_l178 y) (nI j) J = _
        unfold f_Mo_loft_b178
        rw [e0, if_neg (nI_ge hj (by omega)), ald_nI (by omega) (by decide), ast_nI (by omega) (by decide), ald_nI (by omega) (by decide), ast_nI (by omega) (by decide), nI_1]
        rfl
    · obtain ⟨v, J⟩ := s
      obtain ⟨rfl, i1, i2, i3⟩ := hI
      simp only at i1 i2 i3
      have e0 : gI J 105 42 = nI n := by rw [i2 _ _ (by omega)]; exact hb
      refine ⟨((), J), ?_, i1, i2, i3⟩
      show f_Mo_loft_b178 (f_Mo_loft_l178 y) (nI n) J = _
      unfold f_Mo_loft_b178
      rw [e0, if_pos (nI_le (Nat.le_refl _) (by omega))]
  obtain ⟨⟨u, K⟩, k1, k2⟩ := key
  exact ⟨K, k1, k2⟩
theorem lft218 {M : AM} : ∃ K, f_Mo_loft_l218 fu 0 M = some ((), K) ∧ (∀ c k, gR K c k = gR M c k) ∧ (∀ c k, ¬ c = 123 → gI K c k = gI M c k) ∧ (∀ k, k < 5 → gI K 123 k = 0) := by
  have key : ∃ o, f_Mo_loft_l218 fu 0 M = some o ∧ ((∀ c k, gR o.2 c k = gR M c k) ∧ (∀ c k, ¬ c = 123 → gI o.2 c k = gI M c k) ∧ (∀ k, k < 5 → gI o.2 123 k = 0)) := by
    refine for_inv (fun y (s : Int32 × AM) => f_Mo_loft_l218 y s.1 s.2) (fun j s => s.1 = nI j ∧ (∀ c k, gR s.2 c k = gR M c k) ∧ (∀ c k, ¬ c = 123 → gI s.2 c k = gI M c k) ∧ (∀ k, k < j → gI s.2 123 k = 0)) 5 _ (fun j s y hj hI => ?_) (fun s y hI => ?_) 5 0 (0, M) fu (by omega) (by rw [fu_eq]; omega) ⟨rfl, fun _ _ => rfl, fun _ _ _ => rfl, fun l hl => by omega⟩
    · obtain ⟨v, J⟩ := s
      obtain ⟨rfl, i1, i2, i3⟩ := hI
      simp only at i1 i2 i3
      left
      refine ⟨(nI (j + 1), sI J 123 j 0), ⟨rfl, i1, fun c k q => by rw [gI_sI, if_neg (by omega)]; exact i2 c k q, fun l hl => ?_⟩, ?_⟩
      · show gI (sI J 123 j 0) 123 l = _
        by_cases e : l = j
        · rw [e, gI_sI, if_pos ⟨rfl, rfl⟩]
        · rw [gI_sI, if_neg (fun q => e q.2)]
          exact i3 l (by omega)
      · show f_Mo_loft_b218 (f_Mo_loft_l218 y) (nI j) J = _
        unfold f_Mo_loft_b218
        rw [nI_lit 5, if_neg (nI_ge hj (by decide)), ast_nI (by omega) (by decide), nI_1]
    · obtain ⟨v, J⟩ := s
      obtain ⟨rfl, i1, i2, i3⟩ := hI
      simp only at i1 i2 i3
      refine ⟨((), J), ?_, i1, i2, i3⟩
      show f_Mo_loft_b218 (f_Mo_loft_l218 y) (nI 5) J = _
      unfold f_Mo_loft_b218
      rw [nI_lit 5, if_pos (nI_le (Nat.le_refl _) (by decide))]
  obtain ⟨⟨u, K⟩, k1, k2⟩ := key
  exact ⟨K, k1, k2⟩
theorem lft278 {M : AM} : ∃ K, f_Mo_loft_l278 fu 0 M = some ((), K) ∧ (∀ c k, gR K c k = gR M c k) ∧ (∀ c k, ¬ c = 136 → gI K c k = gI M c k) ∧ (∀ k, k < 3 → gI K 136 k = 0) := by
  have key : ∃ o, f_Mo_loft_l278 fu 0 M = some o ∧ ((∀ c k, gR o.2 c k = gR M c k) ∧ (∀ c k, ¬ c = 136 → gI o.2 c k = gI M c k) ∧ (∀ k, k < 3 → gI o.2 136 k = 0)) := by
    refine for_inv (fun y (s : Int32 × AM) => f_Mo_loft_l278 y s.1 s.2) (fun j s => s.1 = nI j ∧ (∀ c k, gR s.2 c k = gR M c k) ∧ (∀ c k, ¬ c = 136 → gI s.2 c k = gI M c k) ∧ (∀ k, k < j → gI s.2 136 k = 0)) 3 _ (fun j s y hj hI => ?_) (fun s y hI => ?_) 3 0 (0, M) fu (by omega) (by rw [fu_eq]; omega) ⟨rfl, fun _ _ => rfl, fun _ _ _ => rfl, fun l hl => by omega⟩
    · obtain ⟨v, J⟩ := s
      obtain ⟨rfl, i1, i2, i3⟩ := hI
      simp only at i1 i2 i3
      left
      refine ⟨(nI (j + 1), sI J 136 j 0), ⟨rfl, i1, fun c k q => by rw [gI_sI, if_neg (by omega)]; exact i2 c k q, fun l hl => ?_⟩, ?_⟩
      · show gI (sI J 136 j 0) 136 l = _
        by_cases e : l = j
        · rw [e, gI_sI, if_pos ⟨rfl, rfl⟩]
        · rw [gI_sI, if_neg (fun q => e q.2)]
          exact i3 l (by omega)
      · show f_Mo_loft_b278 (f_Mo_loft_l278 y) (nI j) J = _
        unfold f_Mo_loft_b278
        rw [nI_lit 3, if_neg (nI_ge hj (by decide)), ast_nI (by omega) (by decide), nI_1]
    · obtain ⟨v, J⟩ := s
      obtain ⟨rfl, i1, i2, i3⟩ := hI
      simp only at i1 i2 i3
      refine ⟨((), J), ?_, i1, i2, i3⟩
      show f_Mo_loft_b278 (f_Mo_loft_l278 y) (nI 3) J = _
      unfold f_Mo_loft_b278
      rw [nI_lit 3, if_pos (nI_le (Nat.le_refl _) (by decide))]
  obtain ⟨⟨u, K⟩, k1, k2⟩ := key
  exact ⟨K, k1, k2⟩
def ref0 (N : AM) : AM := sI (sI (sI (sI (sI (sI (sI (sI (sI (sI (sI (sI (sI (sI (sI (sI N 105 5 (gI N 105 1)) 105 1 0) 105 4 0) 105 2 0) 105 3 (-1)) 105 35 0) 105 36 0) 105 37 0) 105 38 0) 105 39 0) 105 40 0) 105 47 0) 105 48 0) 105 49 0) 105 24 0) 105 20 0
theorem ref0_o {N : AM} {c k : Nat} (h : ¬ wM c k) (h2 : ¬ (c = 105 ∧ (k = 1 ∨ k = 5))) : gI (ref0 N) c k = gI N c k := by
  unfold wM at h
  unfold ref0
  rw [gI_sI, if_neg (by omega), gI_sI, if_neg (by omega), gI_sI, if_neg (by omega), gI_sI, if_neg (by omega), gI_sI, if_neg (by omega), gI_sI, if_neg (by omega), gI_sI, if_neg (by omega), gI_sI, if_neg (by omega), gI_sI, if_neg (by omega), gI_sI, if_neg (by omega), gI_sI, if_neg (by omega), gI_sI, if_neg (by omega), gI_sI, if_neg (by omega), gI_sI, if_neg (by omega), gI_sI, if_neg (by omega), gI_sI, if_neg (by omega)]
theorem PM_Z0 {N : AM} : PM Z0 (ref0 N) :=
  ⟨⟨⟨rfl, rfl⟩, rfl, rfl, rfl, rfl, rfl, rfl, rfl, fun q => absurd (show (0 : Nat) = 1 from q) (by decide), rfl, rfl, rfl, rfl⟩, fun l hl => absurd hl (Nat.not_lt_zero l), fun c hc => absurd hc (Nat.not_lt_zero c), fun i hi => absurd hi (Nat.not_lt_zero i)⟩
section LM
variable {B : Nat → Nat} {z : Nat} {N : AM}
theorem readAll_ok (hz : z ≤ 1600) (hB : ∀ i, i < z → B i < 256) (h1 : gI N 105 1 = nI z) (hb : ∀ i, i < z → gI N 106 i = nI (B i)) : ∃ K, f_Mo_readAll N = some ((), K) ∧ MO B z (ref0 N) (sAll (byt B z) 1601 0 Z0) K := by
  have hT : TM B z (ref0 N) := ⟨h1, hb⟩
  obtain ⟨K0, t1, t2, t3⟩ := token_ok hz hB hT (i := 0) (show (0 : Int32) = nI (stm (byt B z) 0) from rfl)
  have hM : MS B z K0 0 Z0 := ⟨t2, hT.fm t3, PM_Z0.fm t3⟩
  have nE16 := (nE_ok hz hB).2.2
  obtain ⟨K, k1, k2⟩ := mall_loop hz hB (fun i N E a b c d => mdusk_ok hz hB a b c d) 1601 0 K0 Z0 fu (by omega) (Nat.zero_le _) (by rw [fu_eq]; omega) hM okN_Z0
  refine ⟨K, ?_, k2.from t3.fr⟩
  have un : f_Mo_readAll N = bnd (f_Mo_token (ref0 N)) (fun r17 M18 => bnd (f_Mo_readAll_l87 fu M18) (fun y19 M20 => some ((), M20))) := rfl
  rw [un, t1, bnd_s, k1, bnd_s]
def ref1 (K : AM) : AM := sI (sI (sI (sI (sI (sI (sI (sI K 105 41 (gI K 105 35)) 105 42 (gI K 105 36)) 105 43 (gI K 105 37)) 105 44 (gI K 105 38)) 105 45 (gI K 105 39)) 105 46 (gI K 105 40)) 105 21 (gI K 105 20)) 105 25 (gI K 105 24)
/-- what the reference keeps of it -/
theorem keepM {K : AM} {E : DT} (hP : PM E K) (hO : okN E) (hH : HD E) (hK2 : gI K 105 2 = 0) : ∃ K', (if (gI K 105 2) ≤ 0 then wI K 105 41 (gI K 105 35) (fun M3 => wI M3 105 42 (gI M3 105 36) (fun M4 => wI M4 105 43 (gI M4 105 37) (fun M5 => wI M5 105 44 (gI M5 105 38) (fun M6 => wI M6 105 45 (gI M6 105 39) (fun M7 => wI M7 105 46 (gI M7 105 40) (fun M8 => wI M8 105 21 (gI M8 105 20) (fun M9 => ckB (gI M9 105 24) (wI M9 105 25 (gI M9 105 24) (fun M10 => if (gI M10 105 24) = 0 then f_Mo_loft_j93 0 M10 else f_Mo_loft_j93 (gI M10 105 17) M10))))))))) else some ((-1), K)) = some (nI (E 0 0), K') ∧ (∀ c k, gR K' c k = gR K c k) ∧ (∀ c k, c < 105 → gI K' c k = gI K c k) ∧ (∀ k, k = 1 ∨ k = 2 ∨ k = 3 ∨ k = 68 → gI K' 105 k = gI K 105 k) ∧ MPL E K' ∧ gI K' 105 52 = 0 ∧ gI K' 105 53 = 0 ∧ gI K' 105 67 = 0 ∧ gI K' 105 59 = 0 ∧ (∀ b, b < 3 → gI K' 136 b = 0) ∧ (∀ i, i < 5 → gI K' 123 i = if i = 0 then nI (E 0 2) else if i = 4 then nI (E 73 0) else 0) := by
  obtain ⟨⟨a1, a2, a3, a4, a5, a6, a7, a8, a9, a10, a11, a12, a13⟩, b, d, e⟩ := hP
  have o72 := hO.1.2.2.2.2.2.2.1
  have h24 : gI K 105 24 = 0 ∨ gI K 105 24 = 1 := by
    rw [a10]
    rcases (show E 72 3 = 0 ∨ E 72 3 = 1 by omega) with q | q <;> rw [q]
    · exact Or.inl rfl
    · exact Or.inr rfl
  have h17 : (if gI K 105 24 = 0 then f_Mo_loft_j93 0 (ref1 K) else f_Mo_loft_j93 (gI K 105 17) (ref1 K)) = f_Mo_loft_j93 (nI (E 0 6)) (ref1 K) := by
    rw [a10]
    rcases (show E 72 3 = 0 ∨ E 72 3 = 1 by omega) with q | q
    · rw [q, if_pos (show nI 0 = 0 from rfl), (hO.2.2.2.1 q).2]; rfl
    · rw [q, if_neg (by decide), a9 q]
  have h25 : gI K 105 24 = if E 0 6 = 0 then 0 else 1 := by
    rw [a10]
    by_cases q : E 0 6 = 0
    · rw [if_pos q, hH.resolve_right (fun x => x q)]; rfl
    · rw [if_neg q, show E 72 3 = 1 from by
        rcases (show E 72 3 = 0 ∨ E 72 3 = 1 by omega) with x | x
        · exact absurd (hO.2.2.2.1 x).2 q
        · exact x]
      rfl
  have hE6 := hO.2.2.2.2.2.1
  have hE0 := hO.1.1
  have hE1 := hO.1.2.1
  obtain ⟨L1, l1, r1, g1, c1⟩ := lft98 (M := sI (ref1 K) 105 18 (nI (E 0 6))) (n := E 0 6) (by omega) rfl
  obtain ⟨L2, l2, r2, g2, c2⟩ := lft138 (M := L1) (n := E 0 0) hE0 (by rw [g1 _ _ (by omega)]; exact a2)
  obtain ⟨L3, l3, r3, g3, c3⟩ := lft178 (M := L2) (n := E 0 1) hE1 (by rw [g2 _ _ (by omega), g1 _ _ (by omega)]; exact a3)
  obtain ⟨L4, l4, r4, g4, c4⟩ := lft218 (M := L3)
  generalize hL5 : sI (sI (sI (sI (sI (sI L4 123 0 (gI L4 105 43)) 123 4 (gI L4 105 46)) 105 52 0) 105 53 0) 105 67 0) 105 59 0 = L5
  obtain ⟨L6, l6, r6, g6, c6⟩ := lft278 (M := L5)
  have gg : ∀ c k, ¬ (c = 110 ∨ c = 111 ∨ c = 119 ∨ c = 120 ∨ c = 121 ∨ c = 122 ∨ c = 123) → ¬ (c = 105 ∧ k = 18) → gI L4 c k = gI (ref1 K) c k := fun c k q q2 => by
    rw [g4 c k (by omega), g3 c k (by omega), g2 c k (by omega), g1 c k (by omega), gI_sI, if_neg q2]
  have g5 : ∀ c k, ¬ (c = 123 ∨ (c = 105 ∧ (k = 52 ∨ k = 53 ∨ k = 67 ∨ k = 59))) → gI L5 c k = gI L4 c k := fun c k q => by
    rw [← hL5, gI_sI, if_neg (by omega), gI_sI, if_neg (by omega), gI_sI, if_neg (by omega), gI_sI, if_neg (by omega), gI_sI, if_neg (by omega), gI_sI, if_neg (by omega)]
  have gA : ∀ c k, ¬ (c = 110 ∨ c = 111 ∨ c = 119 ∨ c = 120 ∨ c = 121 ∨ c = 122 ∨ c = 123 ∨ c = 136) → ¬ (c = 105 ∧ (k = 18 ∨ k = 52 ∨ k = 53 ∨ k = 67 ∨ k = 59)) → gI L6 c k = gI (ref1 K) c k := fun c k q q2 => by
    rw [g6 c k (by omega), g5 c k (by omega), gg c k (by omega) (by omega)]
  have gB : ∀ c k, ¬ c = 105 → gI (ref1 K) c k = gI K c k := fun c k q => by
    unfold ref1
    rw [gI_sI, if_neg (by omega), gI_sI, if_neg (by omega), gI_sI, if_neg (by omega), gI_sI, if_neg (by omega), gI_sI, if_neg (by omega), gI_sI, if_neg (by omega), gI_sI, if_neg (by omega), gI_sI, if_neg (by omega)]
  refine ⟨L6, ?_, ?_, ?_, ?_, ⟨⟨?_, ?_, ?_, ?_, ?_, ?_, ?_, ?_⟩, ?_, ?_, ?_⟩, ?_, ?_, ?_, ?_, c6, ?_⟩
  · rw [if_pos (by rw [hK2]; decide)]
    show ckB (gI K 105 24) (if gI K 105 24 = 0 then f_Mo_loft_j93 0 (ref1 K) else f_Mo_loft_j93 (gI K 105 17) (ref1 K)) = _
    rw [ckB_eq h24, h17]
    unfold f_Mo_loft_j93
    rw [wI_eq, l1, bnd_s, l2, bnd_s, l3, bnd_s, l4, bnd_s, nI_lit 0, ast_nI (by decide) (by decide), nI_lit 4, ast_nI (by decide) (by decide)]
    simp only [wI_eq]
    rw [show sI (sI (sI (sI (sI (sI L4 123 0 (gI L4 105 43)) 123 4 (gI (sI L4 123 0 (gI L4 105 43)) 105 46)) 105 52 (nI 0)) 105 53 (nI 0)) 105 67 (nI 0)) 105 59 (nI 0) = L5 from hL5]
    rw [show f_Mo_loft_l278 fu (nI 0) L5 = some ((), L6) from l6, bnd_s, gA 105 41 (by omega) (by omega)]
    rw [show gI (ref1 K) 105 41 = gI K 105 35 from rfl, a2]
  · intro c k
    rw [r6, ← hL5]
    show gR L4 c k = _
    rw [r4, r3, r2, r1]; rfl
  · intro c k q
    rw [gA c k (by omega) (by omega), gB c k (by omega)]
  · intro k q
    rw [gA 105 k (by omega) (by omega)]
    unfold ref1
    rw [gI_sI, if_neg (by omega), gI_sI, if_neg (by omega), gI_sI, if_neg (by omega), gI_sI, if_neg (by omega), gI_sI, if_neg (by omega), gI_sI, if_neg (by omega), gI_sI, if_neg (by omega), gI_sI, if_neg (by omega)]
  · rw [gA 105 41 (by omega) (by omega)]; exact a2
  · rw [gA 105 43 (by omega) (by omega)]; exact a4
  · rw [gA 105 42 (by omega) (by omega)]; exact a3
  · rw [gA 105 44 (by omega) (by omega)]; exact a5
  · rw [gA 105 45 (by omega) (by omega)]; exact a6
  · rw [gA 105 21 (by omega) (by omega)]; exact a8
  · rw [g6 105 18 (by omega), g5 105 18 (by omega), g4 105 18 (by omega), g3 105 18 (by omega), g2 105 18 (by omega), g1 105 18 (by omega)]; rfl
  · rw [gA 105 25 (by omega) (by omega)]; exact h25
  · intro l hl
    obtain ⟨x1, x2, x3⟩ := b l hl
    obtain ⟨y1, y2⟩ := c2 l hl
    refine ⟨?_, ?_⟩
    · rw [g6 _ _ (by omega), g5 _ _ (by omega), g4 _ _ (by omega), g3 _ _ (by omega), y1, g1 _ _ (by omega)]; exact x2
    · rw [g6 _ _ (by omega), g5 _ _ (by omega), g4 _ _ (by omega), g3 _ _ (by omega), y2, g1 _ _ (by omega)]; exact x3
  · intro l hl
    obtain ⟨x1, x2, x3⟩ := d l hl
    obtain ⟨y1, y2⟩ := c3 l hl
    refine ⟨?_, ?_⟩
    · rw [g6 _ _ (by omega), g5 _ _ (by omega), g4 _ _ (by omega), y1, g2 _ _ (by omega), g1 _ _ (by omega)]; exact x2
    · rw [g6 _ _ (by omega), g5 _ _ (by omega), g4 _ _ (by omega), y2, g2 _ _ (by omega), g1 _ _ (by omega)]; exact x3
  · intro l hl
    obtain ⟨x1, x2⟩ := e l hl
    obtain ⟨y1, y2⟩ := c1 l hl
    refine ⟨?_, ?_⟩
    · rw [g6 _ _ (by omega), g5 _ _ (by omega), g4 _ _ (by omega), g3 _ _ (by omega), g2 _ _ (by omega), y1]; exact x1
    · rw [g6 _ _ (by omega), g5 _ _ (by omega), g4 _ _ (by omega), g3 _ _ (by omega), g2 _ _ (by omega), y2]; exact x2
  · rw [g6 _ _ (by omega), ← hL5]; rfl
  · rw [g6 _ _ (by omega), ← hL5]; rfl
  · rw [g6 _ _ (by omega), ← hL5]; rfl
  · rw [g6 _ _ (by omega), ← hL5]; rfl
  · intro i hi
    have e43 : gI L4 105 43 = nI (E 0 2) := by rw [gg 105 43 (by omega) (by omega)]; exact a4
    have e46 : gI L4 105 46 = nI (E 73 0) := by rw [gg 105 46 (by omega) (by omega)]; exact a7
    rw [g6 _ _ (by omega), ← hL5, gI_sI, if_neg (by omega), gI_sI, if_neg (by omega), gI_sI, if_neg (by omega), gI_sI, if_neg (by omega), gI_sI, gI_sI, e43, e46]
    by_cases i4 : i = 4
    · rw [if_pos ⟨rfl, i4⟩, if_neg (by omega), if_pos i4]
    · rw [if_neg (fun q => i4 q.2)]
      by_cases i0 : i = 0
      · rw [if_pos ⟨rfl, i0⟩, if_pos i0]
      · rw [if_neg (fun q => i0 q.2), if_neg i0, if_neg i4]; exact c4 i hi
theorem loftM (hz : z ≤ 1600) (hB : ∀ i, i < z → B i < 256) (h1 : gI N 105 1 = nI z) (hb : ∀ i, i < z → gI N 106 i = nI (B i)) : ∃ v K, f_Mo_loft N = some (v, K) ∧ (∀ c k, gR K c k = gR N c k) ∧ (∀ c k, c < 105 → gI K c k = gI N c k) ∧ gI K 105 1 = 0 ∧ ((∃ j E, sAll (byt B z) 1601 0 Z0 = .inl (j, E) ∧ v = nI (E 0 0) ∧ gI K 105 2 = 0 ∧ gI K 105 3 = -1 ∧ gI K 105 68 = gI N 105 68 ∧ MPL E K ∧ gI K 105 52 = 0 ∧ gI K 105 53 = 0 ∧ gI K 105 67 = 0 ∧ gI K 105 59 = 0 ∧ (∀ b, b < 3 → gI K 136 b = 0) ∧ (∀ i, i < 5 → gI K 123 i = if i = 0 then nI (E 0 2) else if i = 4 then nI (E 73 0) else 0)) ∨ (∃ k pl, sAll (byt B z) 1601 0 Z0 = .inr (k, pl) ∧ v = -1 ∧ gI K 105 2 = nI k ∧ gI K 105 3 = nI pl ∧ (∀ c j, ¬ wM c j → ¬ (c = 105 ∧ (j = 1 ∨ j = 5)) → gI K c j = gI N c j))) := by
  obtain ⟨K, k1, k2⟩ := readAll_ok hz hB h1 hb
  unfold f_Mo_loft
  rw [k1, bnd_s]
  have lo : ∀ K', FR (ref0 N) K' → (∀ c j, ¬ wM c j → ¬ (c = 105 ∧ (j = 1 ∨ j = 5)) → gI K' c j = gI N c j) ∧ gI K' 105 1 = 0 ∧ (∀ c k, gR K' c k = gR N c k) := fun K' hf => ⟨fun c j q q2 => (hf.2 c j q).trans (ref0_o q q2), (hf.2 105 1 (by unfold wM; omega)).trans rfl, fun c k => (hf.1 c k).trans rfl⟩
  have wl : ∀ c k, c < 105 → ¬ wM c k := fun c k q => by unfold wM; omega
  rcases k2.cases with ⟨j, E, s1, s2, s3⟩ | ⟨⟨k, pl⟩, s1, s2, s3, s4⟩
  · obtain ⟨f1, f2, f3⟩ := lo K s3
    obtain ⟨hO, hH⟩ := sAll_hd hz hB 1601 0 Z0 j E s1 okN_Z0 (Or.inl rfl)
    obtain ⟨K', x1, x2, x3, x4, x5, x6, x7, x8, x9, x10, x11⟩ := keepM s2.2.2 hO hH s2.2.2.1.1.1
    refine ⟨nI (E 0 0), K', x1, fun c k => (x2 c k).trans (f3 c k), fun c k q => (x3 c k q).trans (f1 c k (wl c k q) (by omega)), (x4 1 (by omega)).trans f2, Or.inl ⟨j, E, s1, rfl, (x4 2 (by omega)).trans s2.2.2.1.1.1, (x4 3 (by omega)).trans s2.2.2.1.1.2, (x4 68 (by omega)).trans (f1 105 68 (by unfold wM; omega) (by omega)), x5, x6, x7, x8, x9, x10, x11⟩⟩
  · obtain ⟨y1, y2, y3, -, -⟩ := s4
    obtain ⟨f1, f2, f3⟩ := lo K y1
    exact ⟨-1, K, if_neg s3, f3, fun c k q => f1 c k (wl c k q) (by omega), f2, Or.inr ⟨k, pl, s1, rfl, y2, y3, f1⟩⟩
end LM
