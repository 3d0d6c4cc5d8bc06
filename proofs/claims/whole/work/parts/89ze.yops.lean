/-! what the reference asks of the yard and of the token -/
section YO
variable {B : Nat → Nat} {z : Nat} {N : AM} {E : DT} {i : Nat} {S : List Nat}
theorem stk_brk : ∀ S, STK N S → (brk S = true ↔ ∃ k, k < S.length ∧ gI N 112 k = 20) := by
  intro S
  induction S with
  | nil => intro _; constructor
           · intro h; cases h
           · intro ⟨k, h, _⟩; exact absurd h (Nat.not_lt_zero _)
  | cons o S ih =>
    intro h
    obtain ⟨h1, h2, h3⟩ := h
    have hl : (o :: S).length = S.length + 1 := rfl
    have hb : brk (o :: S) = if o = 20 then true else brk S := rfl
    rw [hl, hb]
    by_cases e : o = 20
    · rw [if_pos e]
      exact ⟨fun _ => ⟨S.length, by omega, by rw [h1, e]; rfl⟩, fun _ => rfl⟩
    · rw [if_neg e, ih h3]
      constructor
      · intro ⟨k, a, b⟩; exact ⟨k, by omega, b⟩
      · intro ⟨k, a, b⟩
        refine ⟨k, ?_, b⟩
        by_cases ek : k = S.length
        · rw [ek, h1] at b
          exact absurd ((nI_eq (b := 20) (by omega) (by decide)).mp b) e
        · omega
theorem hasBracket_ok (h : STK N S) (hl : S.length < 160) (h19 : gI N 105 19 = nI S.length) : f_Mo_hasBracket N = some (if brk S = true then 1 else 0, N) := by
  have key : ∃ o, f_Mo_hasBracket_l4 fu 0 0 N = some o ∧ (o.2 = N ∧ ((o.1 = 1 ∧ ∃ j, j < S.length ∧ gI N 112 j = 20) ∨ (o.1 = 0 ∧ ∀ j, j < S.length → ¬ gI N 112 j = 20))) := by
    refine for_inv (fun y (s : Int32 × Int32 × AM) => f_Mo_hasBracket_l4 y s.1 s.2.1 s.2.2) (fun k s => s.2.1 = nI k ∧ s.2.2 = N ∧ ((s.1 = 1 ∧ ∃ j, j < k ∧ gI N 112 j = 20) ∨ (s.1 = 0 ∧ ∀ j, j < k → ¬ gI N 112 j = 20))) S.length _ (fun k s y hk hI => ?_) (fun s y hI => ?_) S.length 0 (0, 0, N) fu (by omega) (by rw [fu_eq]; omega) ⟨rfl, rfl, Or.inr ⟨rfl, fun j hj => by omega⟩⟩
    · obtain ⟨v1, v2, K⟩ := s
      obtain ⟨rfl, hK, i1⟩ := hI
      have hK' : N = K := hK.symm
      subst hK'
      left
      have un : f_Mo_hasBracket_l4 (y + 1) v1 (nI k) N = if v1 = 0 then (if gI N 112 k = 20 then f_Mo_hasBracket_l4 y 1 (nI (k + 1)) N else f_Mo_hasBracket_l4 y 0 (nI (k + 1)) N) else f_Mo_hasBracket_l4 y 1 (nI (k + 1)) N := by
        show f_Mo_hasBracket_b4 (f_Mo_hasBracket_l4 y) v1 (nI k) N = _
        unfold f_Mo_hasBracket_b4 f_Mo_hasBracket_j27
        rw [h19, if_neg (nI_ge hk (by omega)), ald_nI (by omega) (by decide), nI_1]
      rcases i1 with ⟨j1, j, j2, j3⟩ | ⟨j1, j2⟩
      · have j1' : v1 = 1 := j1
        refine ⟨(1, nI (k + 1), N), ⟨rfl, rfl, Or.inl ⟨rfl, j, by omega, j3⟩⟩, ?_⟩
        show f_Mo_hasBracket_l4 (y + 1) v1 (nI k) N = _
        rw [un, if_neg (by rw [j1']; decide)]
      · have j1' : v1 = 0 := j1
        by_cases e : gI N 112 k = 20
        · refine ⟨(1, nI (k + 1), N), ⟨rfl, rfl, Or.inl ⟨rfl, k, by omega, e⟩⟩, ?_⟩
          show f_Mo_hasBracket_l4 (y + 1) v1 (nI k) N = _
          rw [un, if_pos j1', if_pos e]
        · refine ⟨(0, nI (k + 1), N), ⟨rfl, rfl, Or.inr ⟨rfl, fun j hj => ?_⟩⟩, ?_⟩
          · by_cases ej : j = k
            · rw [ej]; exact e
            · exact j2 j (by omega)
          · show f_Mo_hasBracket_l4 (y + 1) v1 (nI k) N = _
            rw [un, if_pos j1', if_neg e]
    · obtain ⟨v1, v2, K⟩ := s
      obtain ⟨rfl, hK, i1⟩ := hI
      have hK' : N = K := hK.symm
      subst hK'
      refine ⟨(v1, N), ?_, rfl, i1⟩
      show f_Mo_hasBracket_b4 (f_Mo_hasBracket_l4 y) v1 (nI S.length) N = _
      unfold f_Mo_hasBracket_b4
      rw [h19, if_pos (nI_le (Nat.le_refl _) (by omega))]
  obtain ⟨⟨v, K⟩, k1, hK, k3⟩ := key
  have hK' : N = K := hK.symm
  subst hK'
  unfold f_Mo_hasBracket
  rw [k1, bnd_s]
  have sb := stk_brk S h
  rcases k3 with ⟨a, b⟩ | ⟨a, b⟩
  · have a' : v = 1 := a
    rw [if_pos (sb.mpr b), a']; rfl
  · have a' : v = 0 := a
    rw [if_neg (fun q => by obtain ⟨k, x, y⟩ := sb.mp q; exact b k x y), a']; rfl
theorem mayNot_ok (h : STK N S) (hl : S.length < 160) (h19 : gI N 105 19 = nI S.length) : f_Mo_mayNot N = some (if topt S < 4 then 1 else 0, N) := by
  unfold f_Mo_mayNot f_Mo_mayNot_j41
  rw [h19]
  cases S with
  | nil => rfl
  | cons o S =>
    obtain ⟨h1, h2, h3⟩ := h
    have hlen : (o :: S).length = S.length + 1 := rfl
    rw [hlen] at hl ⊢
    rw [if_neg (show ¬ nI (S.length + 1) = 0 from fun q => by have := (nI_eq (b := 0) (by omega) (by decide)).mp q; omega), nI_lit 1, pk_sub (by omega), Nat.add_sub_cancel, ald_nI (by omega) (by decide), h1]
    by_cases e : o = 20
    · have : topt (o :: S) = 0 := if_pos e
      rw [if_pos (show nI o = 20 by rw [e]; rfl), this, if_pos (by decide)]
    · have : topt (o :: S) = tgt o := if_neg e
      rw [if_neg (show ¬ nI o = 20 from fun q => e ((nI_eq (b := 20) (by omega) (by decide)).mp q)), ald_nI (by omega) (by decide), h1, tight_ok h2, bnd_s, this]
      have tg : tgt o ≤ 6 := by
        unfold tgt
        split
        · omega
        · split
          · omega
          · split
            · omega
            · split
              · omega
              · split <;> omega
      by_cases e4 : tgt o < 4
      · rw [nI_lit 4, if_neg (nI_ge e4 (by decide)), if_pos e4]
      · rw [nI_lit 4, if_pos (nI_le (by omega) (by omega)), if_neg e4]
theorem sign_ok (hz : z ≤ 1600) (hB : ∀ i, i < z → B i < 256) (h : MT (byt B z) N i) : f_Mo_sign N = some (nI (sgk (knd (byt B z) i)), N) := by
  have w1 : f_Mo_isWord 6385252 N = some (if knd (byt B z) i = 138 then 1 else 0, N) := isWord_ok hz hB h (k := 10) (by decide)
  have w2 : f_Mo_isWord 28530 N = some (if knd (byt B z) i = 137 then 1 else 0, N) := isWord_ok hz hB h (k := 9) (by decide)
  unfold f_Mo_sign f_Mo_sign_j98
  rw [w1, bnd_s]
  by_cases h1 : knd (byt B z) i = 138
  · rw [if_pos h1, if_neg (by decide), h1]; rfl
  rw [if_neg h1, if_pos rfl, w2, bnd_s]
  by_cases h2 : knd (byt B z) i = 137
  · rw [if_pos h2, if_neg (by decide), h2]; rfl
  rw [if_neg h2, if_pos rfl]
  have i6 : ∀ c : Nat, 4 ≤ c → c < 128 → (gI N 105 6 = (OfNat.ofNat c : Int32) ↔ knd (byt B z) i = c) := fun c a b => (sI6 hz hB h c (by omega)).trans (srt_iff a b)
  have hit : ∀ c : Nat, 4 ≤ c → c < 128 → knd (byt B z) i = c → (c = 60 ∨ c = 62 ∨ c = 61 ∨ c = 43 ∨ c = 45 ∨ c = 42 ∨ c = 47 ∨ c = 37) → some (gI N 105 6, N) = some (nI (sgk (knd (byt B z) i)), N) := fun c a b e s => by
    have e1 : gI N 105 6 = nI c := (i6 c a b).mpr e
    have e2 : sgk (knd (byt B z) i) = c := by
      unfold sgk
      rw [if_neg h1, if_neg h2, if_pos (by omega), e]
    rw [e1, e2]
  by_cases c1 : knd (byt B z) i = 60
  · rw [if_pos ((i6 60 (by decide) (by decide)).mpr c1)]; exact hit 60 (by decide) (by decide) c1 (by omega)
  rw [if_neg (fun q => c1 ((i6 60 (by decide) (by decide)).mp q))]
  by_cases c2 : knd (byt B z) i = 62
  · rw [if_pos ((i6 62 (by decide) (by decide)).mpr c2)]; exact hit 62 (by decide) (by decide) c2 (by omega)
  rw [if_neg (fun q => c2 ((i6 62 (by decide) (by decide)).mp q))]
  by_cases c3 : knd (byt B z) i = 61
  · rw [if_pos ((i6 61 (by decide) (by decide)).mpr c3)]; exact hit 61 (by decide) (by decide) c3 (by omega)
  rw [if_neg (fun q => c3 ((i6 61 (by decide) (by decide)).mp q))]
  by_cases c4 : knd (byt B z) i = 43
  · rw [if_pos ((i6 43 (by decide) (by decide)).mpr c4)]; exact hit 43 (by decide) (by decide) c4 (by omega)
  rw [if_neg (fun q => c4 ((i6 43 (by decide) (by decide)).mp q))]
  by_cases c5 : knd (byt B z) i = 45
  · rw [if_pos ((i6 45 (by decide) (by decide)).mpr c5)]; exact hit 45 (by decide) (by decide) c5 (by omega)
  rw [if_neg (fun q => c5 ((i6 45 (by decide) (by decide)).mp q))]
  by_cases c6 : knd (byt B z) i = 42
  · rw [if_pos ((i6 42 (by decide) (by decide)).mpr c6)]; exact hit 42 (by decide) (by decide) c6 (by omega)
  rw [if_neg (fun q => c6 ((i6 42 (by decide) (by decide)).mp q))]
  by_cases c7 : knd (byt B z) i = 47
  · rw [if_pos ((i6 47 (by decide) (by decide)).mpr c7)]; exact hit 47 (by decide) (by decide) c7 (by omega)
  rw [if_neg (fun q => c7 ((i6 47 (by decide) (by decide)).mp q))]
  by_cases c8 : knd (byt B z) i = 37
  · rw [if_pos ((i6 37 (by decide) (by decide)).mpr c8)]; exact hit 37 (by decide) (by decide) c8 (by omega)
  rw [if_neg (fun q => c8 ((i6 37 (by decide) (by decide)).mp q))]
  have e0 : sgk (knd (byt B z) i) = 0 := by
    unfold sgk
    rw [if_neg h1, if_neg h2, if_neg (by omega)]
  rw [e0]; rfl
theorem tgt_6 (o : Nat) : tgt o ≤ 6 := by
  unfold tgt
  split
  · omega
  · split
    · omega
    · split
      · omega
      · split
        · omega
        · split <;> omega
theorem hasRel_loop : ∀ S y, STK N S → S.length < 160 → S.length < y → ∃ v, f_Mo_hasRelation_l7 y (nI S.length - 1) N = some (v, N) ∧ ((v < 0 ∧ hrel S = false) ∨ ∃ o j, v = nI j ∧ j < 160 ∧ gI N 112 j = nI o ∧ o < 300 ∧ hrel S = (if o = 20 then false else decide (tgt o = 4))) := by
  intro S
  induction S with
  | nil =>
    intro y h hl hy
    obtain ⟨y, rfl⟩ : ∃ x, y = x + 1 := ⟨y - 1, by omega⟩
    refine ⟨-1, ?_, Or.inl ⟨by decide, rfl⟩⟩
    show f_Mo_hasRelation_b7 (f_Mo_hasRelation_l7 y) (-1) N = _
    unfold f_Mo_hasRelation_b7
    rw [if_pos (by decide)]
  | cons o S ih =>
    intro y h hl hy
    obtain ⟨y, rfl⟩ : ∃ x, y = x + 1 := ⟨y - 1, by omega⟩
    obtain ⟨h1, h2, h3⟩ := h
    have hlen : (o :: S).length = S.length + 1 := rfl
    rw [hlen] at hl hy ⊢
    have hh : hrel (o :: S) = if o = 20 then false else if tgt o ≤ 4 then decide (tgt o = 4) else hrel S := rfl
    rw [nI_lit 1, pk_sub (by omega), Nat.add_sub_cancel]
    have un : f_Mo_hasRelation_l7 (y + 1) (nI S.length) N = f_Mo_hasRelation_b7 (f_Mo_hasRelation_l7 y) (nI S.length) N := rfl
    rw [un]
    unfold f_Mo_hasRelation_b7
    rw [if_neg (nI_lt0 (by omega)), ald_nI (by omega) (by decide), h1]
    by_cases e : o = 20
    · rw [if_pos (show nI o = 20 by rw [e]; rfl)]
      exact ⟨_, rfl, Or.inr ⟨o, S.length, rfl, by omega, h1, h2, by rw [hh, if_pos e, if_pos e]⟩⟩
    · have t6 := tgt_6 o
      rw [if_neg (show ¬ nI o = 20 from fun q => e ((nI_eq (b := 20) (by omega) (by decide)).mp q)), ald_nI (by omega) (by decide), h1, tight_ok h2, bnd_s]
      by_cases e4 : tgt o ≤ 4
      · rw [nI_lit 4, if_pos (nI_le e4 (by decide))]
        exact ⟨_, rfl, Or.inr ⟨o, S.length, rfl, by omega, h1, h2, by rw [hh, if_neg e, if_pos e4, if_neg e]⟩⟩
      · rw [nI_lit 4, if_neg (nI_ge (by omega) (by omega))]
        obtain ⟨v, x1, x2⟩ := ih y h3 (by omega) (by omega)
        have em : nI S.length + (-1) = nI S.length - 1 := by rw [Int32.sub_eq_add_neg]
        rw [em, x1, hh, if_neg e, if_neg e4]
        exact ⟨v, rfl, x2⟩
theorem hasRelation_ok (h : STK N S) (hl : S.length < 160) (h19 : gI N 105 19 = nI S.length) : f_Mo_hasRelation N = some (if hrel S = true then 1 else 0, N) := by
  obtain ⟨v, x1, x2⟩ := hasRel_loop S fu h hl (by rw [fu_eq]; omega)
  unfold f_Mo_hasRelation
  rw [h19, x1, bnd_s]
  rcases x2 with ⟨a, b⟩ | ⟨o, j, rfl, j1, j2, j3, j4⟩
  · rw [if_pos a, b, if_neg (by decide)]
  · rw [if_neg (nI_lt0 (by omega)), ald_nI (by omega) (by decide), j2, j4]
    by_cases e : o = 20
    · rw [if_pos (show nI o = 20 by rw [e]; rfl), if_pos e, if_neg (by decide)]
    · have t6 := tgt_6 o
      rw [if_neg (show ¬ nI o = 20 from fun q => e ((nI_eq (b := 20) (by omega) (by decide)).mp q)), ald_nI (by omega) (by decide), j2, tight_ok j3, bnd_s, if_neg e]
      by_cases e4 : tgt o = 4
      · rw [if_pos (show nI (tgt o) = 4 by rw [e4]; rfl), if_pos (by simp [e4])]
      · rw [if_neg (show ¬ nI (tgt o) = 4 from fun q => e4 ((nI_eq (b := 4) (by omega) (by decide)).mp q)), if_neg (by simp [e4])]
theorem asked_ok (hz : z ≤ 1600) (hB : ∀ i, i < z → B i < 256) (h : MT (byt B z) N i) : f_Mo_asked N = some (if 140 ≤ knd (byt B z) i ∧ knd (byt B z) i ≤ 145 then nI (knd (byt B z) i - 140) else -1, N) := by
  unfold f_Mo_asked
  by_cases e : knd (byt B z) i = 2 ∨ 128 ≤ knd (byt B z) i
  · rw [if_pos ((sI6 hz hB h 1 (by decide)).mpr (srt_1.mpr e))]
    obtain ⟨w1, w2⟩ := tkW_v hz e (knd_lt hz hB i)
    have kv : ∀ k, k < 18 → KW k < 2 ^ 63 := by decide +kernel
    have ne : ∀ k, k < 18 → ¬ knd (byt B z) i = 128 + k → ¬ lg_cmp (gL N 105 9) (lN (KW k)) = 0 := fun k hk hn q => by
      rw [h.2.2.2.2 e] at q
      exact hn (by rw [w2]; exact (kwd_iff hk).mpr (lN_in (vwd_lt w1).1 (kv k hk) ((lg_cmp_eq _ _).mp q)))
    have ps : ∀ k, k < 18 → knd (byt B z) i = 128 + k → lg_cmp (gL N 105 9) (lN (KW k)) = 0 := fun k hk hn => by
      rw [h.2.2.2.2 e, (kwd_iff hk).mp (w2.symm.trans hn)]
      exact (lg_cmp_eq _ _).mpr rfl
    by_cases c12 : knd (byt B z) i = 140
    · rw [if_pos (show lg_cmp (gL N 105 9) 7104884 = 0 from ps 12 (by decide) c12), if_pos (show 140 ≤ knd (byt B z) i ∧ knd (byt B z) i ≤ 145 by omega), c12]; rfl
    rw [if_neg (show ¬ lg_cmp (gL N 105 9) 7104884 = 0 from ne 12 (by decide) c12)]
    by_cases c13 : knd (byt B z) i = 141
    · rw [if_pos (show lg_cmp (gL N 105 9) 1852137842 = 0 from ps 13 (by decide) c13), if_pos (show 140 ≤ knd (byt B z) i ∧ knd (byt B z) i ≤ 145 by omega), c13]; rfl
    rw [if_neg (show ¬ lg_cmp (gL N 105 9) 1852137842 = 0 from ne 13 (by decide) c13)]
    by_cases c14 : knd (byt B z) i = 142
    · rw [if_pos (show lg_cmp (gL N 105 9) 427071530099 = 0 from ps 14 (by decide) c14), if_pos (show 140 ≤ knd (byt B z) i ∧ knd (byt B z) i ≤ 145 by omega), c14]; rfl
    rw [if_neg (show ¬ lg_cmp (gL N 105 9) 427071530099 = 0 from ne 14 (by decide) c14)]
    by_cases c15 : knd (byt B z) i = 143
    · rw [if_pos (show lg_cmp (gL N 105 9) 121450625394034 = 0 from ps 15 (by decide) c15), if_pos (show 140 ≤ knd (byt B z) i ∧ knd (byt B z) i ≤ 145 by omega), c15]; rfl
    rw [if_neg (show ¬ lg_cmp (gL N 105 9) 121450625394034 = 0 from ne 15 (by decide) c15)]
    by_cases c16 : knd (byt B z) i = 144
    · rw [if_pos (show lg_cmp (gL N 105 9) 512736130163 = 0 from ps 16 (by decide) c16), if_pos (show 140 ≤ knd (byt B z) i ∧ knd (byt B z) i ≤ 145 by omega), c16]; rfl
    rw [if_neg (show ¬ lg_cmp (gL N 105 9) 512736130163 = 0 from ne 16 (by decide) c16)]
    by_cases c17 : knd (byt B z) i = 145
    · rw [if_pos (show lg_cmp (gL N 105 9) 474214787188 = 0 from ps 17 (by decide) c17), if_pos (show 140 ≤ knd (byt B z) i ∧ knd (byt B z) i ≤ 145 by omega), c17]; rfl
    rw [if_neg (show ¬ lg_cmp (gL N 105 9) 474214787188 = 0 from ne 17 (by decide) c17)]
    rw [if_neg (show ¬ (140 ≤ knd (byt B z) i ∧ knd (byt B z) i ≤ 145) by omega)]
  · rw [if_neg (fun q => e (srt_1.mp ((sI6 hz hB h 1 (by decide)).mp q))), if_neg (show ¬ (140 ≤ knd (byt B z) i ∧ knd (byt B z) i ≤ 145) by omega)]
theorem isFull_ok (h : YS B z N i S E) (hu : E 0 5 ≤ 30) : f_Mo_isFull N = some (if E 0 5 = 30 then 1 else 0, N) := by
  unfold f_Mo_isFull f_Mo_isFull_j18
  rw [h.1.2.2.1.2.2.2.2.2.2.2.1, if_neg (show ¬ nI (E 0 5) = 60 from fun q => by have := (nI_eq (b := 60) (by omega) (by decide)).mp q; omega), h.2.2.2.1]
  by_cases e : E 0 5 = 30
  · rw [if_pos (show nI (E 0 5) = 30 by rw [e]; rfl), if_pos e]
  · rw [if_neg (show ¬ nI (E 0 5) = 30 from fun q => e ((nI_eq (b := 30) (by omega) (by decide)).mp q)), if_neg e]
end YO
