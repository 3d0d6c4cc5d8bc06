/-! what was seen -/
/-- is a thing that was seen known at k -/
def kno (D : DT) (U : Nat → Int32) (k : Int32) (j : Nat) : Bool := !decide (k < nI (D 55 j)) && (decide (U j < 0) || decide (k < U j))
def ftb (D : DT) (U : Nat → Int32) (k : Int32) (p : Nat) : Nat → Bool
  | 0 => true
  | n + 1 => ftb D U k p n && (!kno D U k n || (p.testBit (D 53 n) == decide (D 54 n = 1)))
theorem ftb_s (D : DT) (U : Nat → Int32) (k : Int32) (p n : Nat) : ftb D U k p (n + 1) = (ftb D U k p n && (!kno D U k n || (p.testBit (D 53 n) == decide (D 54 n = 1)))) := rfl
theorem ftb_iff (D : DT) (U : Nat → Int32) (k : Int32) (p : Nat) : ∀ n, ftb D U k p n = true ↔ ∀ j, j < n → kno D U k j = true → p.testBit (D 53 j) = decide (D 54 j = 1) := by
  intro n
  induction n with
  | zero => exact ⟨fun _ j hj => by omega, fun _ => rfl⟩
  | succ n ih =>
    rw [ftb_s, Bool.and_eq_true, ih, Bool.or_eq_true, beq_iff_eq]
    constructor
    · rintro ⟨h1, h2⟩ j hj hk
      by_cases e : j = n
      · subst e
        rcases h2 with h2 | h2
        · rw [hk] at h2; cases h2
        · exact h2
      · exact h1 j (by omega) hk
    · intro h
      refine ⟨fun j hj => h j (by omega), ?_⟩
      cases hk : kno D U k n with
      | false => left; rfl
      | true => right; exact h n (by omega) hk
theorem ftb_no {D : DT} {U : Nat → Int32} {k : Int32} {p n : Nat} (h : ftb D U k p n = false) : ∀ d, ftb D U k p (n + d) = false := by
  intro d
  induction d with
  | zero => exact h
  | succ d ih => rw [← Nat.add_assoc, ftb_s, ih]; rfl
/-- lamps that must burn (b = 1), that must be dark (b = 0) -/
def mbf (D : DT) (U : Nat → Int32) (k : Int32) (b : Bool) : Nat → Nat
  | 0 => 0
  | n + 1 => mbf D U k b n ||| (if (kno D U k n && (decide (D 54 n = 1) == b)) = true then 2 ^ D 53 n else 0)
theorem mbf_s (D : DT) (U : Nat → Int32) (k : Int32) (b : Bool) (n : Nat) : mbf D U k b (n + 1) = mbf D U k b n ||| (if (kno D U k n && (decide (D 54 n = 1) == b)) = true then 2 ^ D 53 n else 0) := rfl
theorem mbf_tb (D : DT) (U : Nat → Int32) (k : Int32) (b : Bool) (i : Nat) : ∀ n, (mbf D U k b n).testBit i = true ↔ ∃ j, j < n ∧ kno D U k j = true ∧ decide (D 54 j = 1) = b ∧ D 53 j = i := by
  intro n
  induction n with
  | zero =>
    constructor
    · intro h; unfold mbf at h; rw [Nat.zero_testBit] at h; cases h
    · rintro ⟨j, hj, _⟩; omega
  | succ n ih =>
    rw [mbf_s, Nat.testBit_or, Bool.or_eq_true, ih]
    constructor
    · rintro (⟨j, h1, h2⟩ | h)
      · exact ⟨j, by omega, h2⟩
      · by_cases q : (kno D U k n && (decide (D 54 n = 1) == b)) = true
        · rw [if_pos q, Nat.testBit_two_pow, decide_eq_true_iff] at h
          rw [Bool.and_eq_true, beq_iff_eq] at q
          exact ⟨n, by omega, q.1, q.2, h⟩
        · rw [if_neg q, Nat.zero_testBit] at h; cases h
    · rintro ⟨j, h1, h2, h3, h4⟩
      by_cases e : j = n
      · subst e
        right
        rw [if_pos (by rw [Bool.and_eq_true, beq_iff_eq]; exact ⟨h2, h3⟩), Nat.testBit_two_pow, decide_eq_true_iff]
        exact h4
      · left; exact ⟨j, by omega, h2, h3, h4⟩
theorem mbf_lt {D : DT} (U : Nat → Int32) (k : Int32) (b : Bool) (n : Nat) (h : ∀ j, j < n → D 53 j < 8) : mbf D U k b n < 256 := by
  refine Nat.lt_pow_two_of_testBit (n := 8) _ (fun i hi => ?_)
  cases hq : (mbf D U k b n).testBit i with
  | false => rfl
  | true =>
    obtain ⟨j, h1, -, -, h4⟩ := (mbf_tb D U k b i n).mp hq
    have := h j h1
    omega
theorem fit_iff (D : DT) (U : Nat → Int32) (k : Int32) (p n : Nat) : (p &&& mbf D U k true n = mbf D U k true n ∧ p &&& mbf D U k false n = 0) ↔ ftb D U k p n = true := by
  rw [Nat.and_comm p (mbf D U k true n), and_sub, and_nil, ftb_iff]
  constructor
  · rintro ⟨h1, h2⟩ j hj hk
    cases hb : decide (D 54 j = 1) with
    | true => exact h1 _ ((mbf_tb D U k true _ n).mpr ⟨j, hj, hk, hb, rfl⟩)
    | false =>
      cases hp : p.testBit (D 53 j) with
      | false => rfl
      | true =>
        have := h2 _ hp
        rw [(mbf_tb D U k false _ n).mpr ⟨j, hj, hk, hb, rfl⟩] at this
        cases this
  · intro h
    refine ⟨fun i hi => ?_, fun i hi => ?_⟩
    · obtain ⟨j, h1, h2, h3, h4⟩ := (mbf_tb D U k true i n).mp hi
      rw [← h4, h j h1 h2, h3]
    · cases hq : (mbf D U k false n).testBit i with
      | false => rfl
      | true =>
        obtain ⟨j, h1, h2, h3, h4⟩ := (mbf_tb D U k false i n).mp hq
        rw [← h4, h j h1 h2, h3] at hi
        cases hi
/-- the rows of what was seen, with the times at which it was untold -/
def UT (D : DT) (U : Nat → Int32) (N : AM) : Prop := ∀ i, i < D 9 1 → gI N 134 i = U i
theorem UT.sm {D : DT} {U : Nat → Int32} {M N : AM} (h : UT D U M) (hs : Sm M N) : UT D U N := fun i hi => by rw [hs.2 134 i (by unfold scr; omega)]; exact h i hi
def FT (D : DT) (U : Nat → Int32) (k : Int32) (N : AM) : Prop := gI N 99 4 = nI (mbf D U k true (D 9 1)) ∧ gI N 99 5 = nI (mbf D U k false (D 9 1))
theorem scr99 : scr 99 4 ∧ scr 99 5 ∧ scr 99 8 := by unfold scr; omega
theorem recall_ok {D : DT} {M : AM} {U : Nat → Int32} (h : Rel D M) (hU : UT D U M) (k : Int32) : ∃ M', f_Sight_recall k M = some ((), M') ∧ Sm M M' ∧ FT D U k M' := by
  have hn := h.2.1.2.2.2.2.2.1
  have hnl := h.1.1
  have hs := h.2.1.2.2.2.2.2.2.2.2.2
  have key : ∃ o, f_Sight_recall_l12 k fu 0 (sI (sI M 99 4 0) 99 5 0) = some o ∧ (Sm M o.2 ∧ FT D U k o.2) := by
    refine for_inv (fun z (s : Int32 × AM) => f_Sight_recall_l12 k z s.1 s.2) (fun j s => s.1 = nI j ∧ Sm M s.2 ∧ gI s.2 99 4 = nI (mbf D U k true j) ∧ gI s.2 99 5 = nI (mbf D U k false j)) (D 9 1) _ (fun j s z hj hI => ?_) (fun s z hI => ?_) (D 9 1) 0 (0, sI (sI M 99 4 0) 99 5 0) fu (by omega) (by rw [fu_eq]; omega) ⟨rfl, (Sm.rfl'.sI scr99.1).sI scr99.2.1, rfl, rfl⟩
    · obtain ⟨v, N⟩ := s
      obtain ⟨rfl, i1, i2, i3⟩ := hI
      simp only at i1 i2 i3
      left
      have hR := h.sm i1
      obtain ⟨g1, g2, g3, g4, g5⟩ := hR.2.2.2.2.2.2.2.2.2.2.1
      obtain ⟨e1, e2, e3, e4, e5, e6, e7⟩ := g5 j hj
      obtain ⟨s1, s2, s3⟩ := hs j hj
      rw [(hU.sm i1) j hj] at e7
      have hb : f_Sight_recall_l12 k (z + 1) (nI j) N = if kno D U k j = true then f_Sight_recall_l12 k z (nI (j + 1)) (sI (sI N 99 4 (nI (mbf D U k true (j + 1)))) 99 5 (nI (mbf D U k false (j + 1)))) else f_Sight_recall_l12 k z (nI (j + 1)) N := by
        have hin : ∀ y : Int32, f_Sight_recall_j44 (f_Sight_recall_l12 k z) k (nI j) y N = if k < nI (D 55 j) then f_Sight_recall_l12 k z (nI (j + 1)) N else if y = 0 then f_Sight_recall_l12 k z (nI (j + 1)) (sI (sI N 99 4 (nI (mbf D U k true j ||| (if D 54 j = 1 then 2 ^ D 53 j else 0)))) 99 5 (nI (mbf D U k false j ||| (if D 54 j = 1 then 0 else 2 ^ D 53 j)))) else f_Sight_recall_l12 k z (nI (j + 1)) N := by
          intro y
          unfold f_Sight_recall_j44 f_Sight_recall_j89
          rw [ald_nI (by omega) (by decide), e5, ald_nI (by omega) (by decide), e1, ald_nI (by omega) (by decide), e3, nI_1, nx_one _ (by omega), i2]
          simp only [wI_eq]
          have a101 : ∀ w, gI (sI N 99 4 w) 101 j = nI (D 54 j) := fun w => by rw [gI_sI, if_neg (by omega)]; exact e3
          have a995 : ∀ w, gI (sI N 99 4 w) 99 5 = nI (mbf D U k false j) := fun w => by rw [gI_sI, if_neg (by omega)]; exact i3
          rw [ald_nI (by omega) (by decide), ald_nI (by omega) (by decide), a101, a101, a995, a995]
          by_cases h54 : D 54 j = 1
          · rw [if_pos h54, if_pos h54, h54, if_neg (show ¬ nI 1 = 0 by decide), if_neg (show ¬ nI 1 = 0 by decide), nx_or, nI_lit 0, nx_or]
          · have h540 : D 54 j = 0 := by omega
            rw [if_neg h54, if_neg h54, h540, if_pos (show nI 0 = 0 by decide), if_pos (show nI 0 = 0 by decide), nx_or, nI_lit 0, nx_or]
        show f_Sight_recall_b12 (f_Sight_recall_l12 k z) k (nI j) N = _
        unfold f_Sight_recall_b12 f_Sight_recall_j43
        rw [g1, if_neg (nI_ge hj (by omega)), ald_nI (by omega) (by decide), ald_nI (by omega) (by decide), e7, hin, hin, mbf_s, mbf_s]
        unfold kno
        by_cases q1 : k < nI (D 55 j)
        · rw [if_pos q1, if_pos q1]
          simp [q1]
        · rw [if_neg q1, if_neg q1, if_pos rfl, if_neg (show ¬ (1 : Int32) = 0 by decide)]
          by_cases q2 : U j < 0
          · rw [if_pos q2]
            by_cases h54 : D 54 j = 1 <;> simp [q1, q2, h54]
          · rw [if_neg q2]
            by_cases q3 : k < U j
            · rw [if_pos q3]
              by_cases h54 : D 54 j = 1 <;> simp [q1, q2, q3, h54]
            · rw [if_neg q3]
              simp [q1, q2, q3]
      by_cases hk : kno D U k j = true
      · refine ⟨(nI (j + 1), sI (sI N 99 4 (nI (mbf D U k true (j + 1)))) 99 5 (nI (mbf D U k false (j + 1)))), ⟨rfl, (i1.sI scr99.1).sI scr99.2.1, rfl, rfl⟩, ?_⟩
        show f_Sight_recall_l12 k (z + 1) (nI j) N = _
        rw [hb, if_pos hk]
      · have hk0 : kno D U k j = false := by simpa using hk
        refine ⟨(nI (j + 1), N), ⟨rfl, i1, ?_, ?_⟩, ?_⟩
        · show gI N 99 4 = _
          rw [i2, mbf_s, hk0]; simp
        · show gI N 99 5 = _
          rw [i3, mbf_s, hk0]; simp
        · show f_Sight_recall_l12 k (z + 1) (nI j) N = _
          rw [hb, if_neg hk]
    · obtain ⟨v, N⟩ := s
      obtain ⟨rfl, i1, i2, i3⟩ := hI
      simp only at i1 i2 i3
      have hR := h.sm i1
      refine ⟨((), N), ?_, i1, i2, i3⟩
      show f_Sight_recall_b12 (f_Sight_recall_l12 k z) k (nI (D 9 1)) N = _
      unfold f_Sight_recall_b12
      rw [hR.2.2.2.2.2.2.2.2.2.2.1.1, if_pos (nI_le (Nat.le_refl _) (by omega))]
  obtain ⟨⟨u, M'⟩, k1, k2, k3⟩ := key
  refine ⟨M', ?_, k2, k3⟩
  unfold f_Sight_recall
  simp only [wI_eq]
  rw [k1, bnd_s]
/-- the picture that a set of cords would show -/
def shn (D : DT) (s : Nat) : Nat := D 0 2 ^^^ xt (D 3) (D 0 1) s
theorem shn_lt {D : DT} (ho : okP D) (s : Nat) : shn D s < 256 := Nat.lt_of_lt_of_le (Nat.xor_lt_two_pow ho.2.2.1 (xt_lt ho s _ (Nat.le_refl _))) (p2_le ho.1)
theorem isFitting_ok {D : DT} {N : AM} {U : Nat → Int32} {k : Int32} (hR : Rel D N) (hF : FT D U k N) {s : Nat} (hs : s < 2 ^ D 0 1) : f_Sight_isFitting (gR N 0 3) (nI s) N = some (if ftb D U k (shn D s) (D 9 1) = true then 1 else 0, N) := by
  have h256 := p2_le hR.1.2.1
  have hnl := hR.1.1
  have hm := fun b => mbf_lt (D := D) U k b (D 9 1) (fun j hj => by have := (hR.2.1.2.2.2.2.2.2.2.2.2 j hj).1; omega)
  have h1 := hm true
  have h2 := hm false
  have a1 : shn D s &&& mbf D U k true (D 9 1) ≤ mbf D U k true (D 9 1) := Nat.and_le_right
  have a2 : shn D s &&& mbf D U k false (D 9 1) ≤ mbf D U k false (D 9 1) := Nat.and_le_right
  unfold f_Sight_isFitting
  rw [ald_nI (by omega) (by decide), hR.2.2.2.1.2.2.2.1 s hs, hR.2.2.2.1.1.2.1, nx_xor, hF.1, hF.2]
  show (if nI (shn D s) &&& nI (mbf D U k true (D 9 1)) = _ then (if nI (shn D s) &&& nI (mbf D U k false (D 9 1)) = 0 then _ else _) else _) = _
  rw [nx_and, nx_and]
  by_cases q : ftb D U k (shn D s) (D 9 1) = true
  · have := (fit_iff D U k (shn D s) (D 9 1)).mpr q
    rw [if_pos (by rw [this.1]), if_pos (by rw [this.2]; rfl), if_pos q]
  · rw [if_neg q]
    by_cases q1 : shn D s &&& mbf D U k true (D 9 1) = mbf D U k true (D 9 1)
    · rw [if_pos (by rw [q1])]
      rw [if_neg (fun e : nI (shn D s &&& mbf D U k false (D 9 1)) = 0 => q ((fit_iff D U k (shn D s) (D 9 1)).mp ⟨q1, (nI_eq (b := 0) (by omega) (by decide)).mp e⟩))]
    · rw [if_neg (fun e => q1 ((nI_eq (by omega) (by omega)).mp e))]
/-- sets that have some cords, light some lamps, and fit -/
def cfP (D : DT) (U : Nat → Int32) (k : Int32) (c l s : Nat) : Bool := (decide (s &&& c = c) && decide (shn D s &&& l = l)) && ftb D U k (shn D s) (D 9 1)
theorem countFitting_ok {D : DT} {N : AM} {U : Nat → Int32} {k : Int32} (hR : Rel D N) (hF : FT D U k N) {c l : Nat} (hc : c < 256) (hl : l < 256) : f_Sight_countFitting (gR N 0 3) (nI c) (nI l) N = some (nI (cnt (cfP D U k c l) (2 ^ D 0 1)), N) := by
  have h256 := p2_le hR.1.2.1
  have h0 := p2_pos (D 0 1)
  have hac := allCords_ok hR
  have hfit := fun s (hs : s < 2 ^ D 0 1) => isFitting_ok hR hF hs
  have hts := hR.2.2.2.1.2.2.2.1
  have hlit := hR.2.2.2.1.1.2.1
  unfold f_Sight_countFitting
  generalize gR N 0 3 = p at *
  have key : f_Sight_countFitting_l6 p (nI c) (nI l) fu 0 0 N = some (nI (cnt (cfP D U k c l) (2 ^ D 0 1)), N) := for_up (fun z (q : Int32 × Int32 × AM) => f_Sight_countFitting_l6 p (nI c) (nI l) z q.1 q.2.1 q.2.2) (fun j => (nI (cnt (cfP D U k c l) j), nI j, N)) (2 ^ D 0 1) _
    (fun j z hj => by
      show f_Sight_countFitting_b6 (f_Sight_countFitting_l6 p (nI c) (nI l) z) p (nI c) (nI l) (nI (cnt (cfP D U k c l) j)) (nI j) N = f_Sight_countFitting_l6 p (nI c) (nI l) z (nI (cnt (cfP D U k c l) (j + 1))) (nI (j + 1)) N
      have a1 : j &&& c ≤ c := Nat.and_le_right
      have a2 : shn D j &&& l ≤ l := Nat.and_le_right
      unfold f_Sight_countFitting_b6
      rw [hac, bnd_s, if_neg (sets_go (by omega) hj), ald_nI (by omega) (by decide), hts j hj, hlit, nx_xor, nx_and, hfit j hj, bnd_s, nI_1, nI_1, cnt_s]
      show (if _ then (if nI (shn D j) &&& nI l = nI l then _ else _) else _) = _
      rw [nx_and]
      unfold cfP
      by_cases q1 : j &&& c = c
      · rw [if_pos (by rw [q1])]
        by_cases q2 : shn D j &&& l = l
        · rw [if_pos (by rw [q2])]
          by_cases q3 : ftb D U k (shn D j) (D 9 1) = true
          · rw [if_pos q3, if_neg (by decide)]; simp [q1, q2, q3]
          · rw [if_neg q3, if_pos rfl]; simp [q3]
        · rw [if_neg (fun e => q2 ((nI_eq (by omega) (by omega)).mp e))]; simp [q2]
      · rw [if_neg (fun e => q1 ((nI_eq (by omega) (by omega)).mp e))]; simp [q1])
    (fun z => by
      show f_Sight_countFitting_b6 (f_Sight_countFitting_l6 p (nI c) (nI l) z) p (nI c) (nI l) (nI (cnt (cfP D U k c l) (2 ^ D 0 1))) (nI (2 ^ D 0 1)) N = _
      unfold f_Sight_countFitting_b6
      rw [hac, bnd_s, if_pos (sets_stop (by omega) h0)]) (2 ^ D 0 1) 0 fu (by omega) (by rw [fu_eq]; omega)
  rw [bnd_eq key]
theorem fitsSet_ok {D : DT} {N : AM} {U : Nat → Int32} (hR : Rel D N) (hU : UT D U N) (k : Int32) {s : Nat} (hs : s < 256) : f_Mo_fitsSet (nI s) k N = some (if ftb D U k (shn D s) (D 9 1) = true then 1 else 0, N) := by
  have hn := hR.2.1.2.2.2.2.2.1
  have hnl := hR.1.1
  have hse := hR.2.1.2.2.2.2.2.2.2.2.2
  have hsh := shn_lt hR.1 s
  obtain ⟨g1, g2, g3, g4, g5⟩ := hR.2.2.2.2.2.2.2.2.2.2.1
  have key : ∃ o, f_Mo_fitsSet_l17 k (nI (shn D s)) fu 1 0 N = some o ∧ o = (if ftb D U k (shn D s) (D 9 1) = true then 1 else 0, N) := by
    refine for_inv (fun z (q : Int32 × Int32 × AM) => f_Mo_fitsSet_l17 k (nI (shn D s)) z q.1 q.2.1 q.2.2) (fun j q => q = (if ftb D U k (shn D s) j = true then 1 else 0, nI j, N)) (D 9 1) _ (fun j q z hj hI => ?_) (fun q z hI => ?_) (D 9 1) 0 (1, 0, N) fu (by omega) (by rw [fu_eq]; omega) rfl
    · subst hI
      obtain ⟨e1, e2, e3, e4, e5, e6, e7⟩ := g5 j hj
      obtain ⟨s1, s2, s3⟩ := hse j hj
      have hin : f_Mo_fitsSet_j66 (f_Mo_fitsSet_l17 k (nI (shn D s)) z) k (nI (shn D s)) (nI j) N = if ((shn D s).testBit (D 53 j) == decide (D 54 j = 1)) = true then f_Mo_fitsSet_l17 k (nI (shn D s)) z 1 (nI (j + 1)) N else f_Mo_fitsSet_l17 k (nI (shn D s)) z 0 (nI (j + 1)) N := by
        unfold f_Mo_fitsSet_j66
        rw [ald_nI (by omega) (by decide), e2, has_ok (by omega) (by omega), bnd_s, ald_nI (by omega) (by decide), e4, nI_1]
        rcases (show D 54 j = 0 ∨ D 54 j = 1 by omega) with h54 | h54
        · rw [h54]
          by_cases hb : (shn D s).testBit (D 53 j) = true
          · rw [if_pos hb, if_neg (by decide)]; simp [hb]
          · rw [if_neg hb, if_pos (by decide)]; simp [hb]
        · rw [h54]
          by_cases hb : (shn D s).testBit (D 53 j) = true
          · rw [if_pos hb, if_pos (by decide)]; simp [hb]
          · rw [if_neg hb, if_neg (by decide)]; simp [hb]
      have hb : ∀ v, f_Mo_fitsSet_l17 k (nI (shn D s)) (z + 1) v (nI j) N = if v = 0 then some (v, N) else if kno D U k j = true then (if ((shn D s).testBit (D 53 j) == decide (D 54 j = 1)) = true then f_Mo_fitsSet_l17 k (nI (shn D s)) z 1 (nI (j + 1)) N else f_Mo_fitsSet_l17 k (nI (shn D s)) z 0 (nI (j + 1)) N) else f_Mo_fitsSet_l17 k (nI (shn D s)) z v (nI (j + 1)) N := by
        intro v
        show f_Mo_fitsSet_b17 (f_Mo_fitsSet_l17 k (nI (shn D s)) z) k (nI (shn D s)) v (nI j) N = _
        unfold f_Mo_fitsSet_b17
        rw [g2, if_neg (nI_ge hj (by omega)), ald_nI (by omega) (by decide), e6, ald_nI (by omega) (by decide), ald_nI (by omega) (by decide), hU j hj, hin, nI_1]
        unfold kno
        by_cases hv : v = 0
        · rw [if_pos hv, if_pos hv]
        · rw [if_neg hv, if_neg hv]
          by_cases q1 : k < nI (D 55 j)
          · rw [if_pos q1]; simp [q1]
          · rw [if_neg q1]
            by_cases q2 : U j < 0
            · rw [if_pos q2]; simp [q1, q2]
            · rw [if_neg q2]
              by_cases q3 : k < U j
              · rw [if_pos q3]; simp [q1, q3]
              · rw [if_neg q3]; simp [q1, q2, q3]
      by_cases hmk : ftb D U k (shn D s) j = true
      · left
        refine ⟨_, rfl, ?_⟩
        show f_Mo_fitsSet_l17 k (nI (shn D s)) (z + 1) (if ftb D U k (shn D s) j = true then 1 else 0) (nI j) N = f_Mo_fitsSet_l17 k (nI (shn D s)) z (if ftb D U k (shn D s) (j + 1) = true then 1 else 0) (nI (j + 1)) N
        rw [hb, if_pos hmk, if_neg (by decide), ftb_s, hmk]
        by_cases hk : kno D U k j = true
        · rw [if_pos hk]
          by_cases he : ((shn D s).testBit (D 53 j) == decide (D 54 j = 1)) = true
          · rw [if_pos he, he]; simp
          · rw [if_neg he]
            have he0 : ((shn D s).testBit (D 53 j) == decide (D 54 j = 1)) = false := by simpa using he
            rw [he0, hk]; simp
        · rw [if_neg hk]
          have hk0 : kno D U k j = false := by simpa using hk
          rw [hk0]; simp
      · right
        have hf : ftb D U k (shn D s) j = false := by simpa using hmk
        have hf2 := ftb_no hf (D 9 1 - j)
        rw [show j + (D 9 1 - j) = D 9 1 by omega] at hf2
        refine ⟨(0, N), ?_, by rw [hf2]; rfl⟩
        show f_Mo_fitsSet_l17 k (nI (shn D s)) (z + 1) (if ftb D U k (shn D s) j = true then 1 else 0) (nI j) N = _
        rw [hb, if_neg hmk, if_pos rfl]
    · subst hI
      refine ⟨_, ?_, rfl⟩
      show f_Mo_fitsSet_b17 (f_Mo_fitsSet_l17 k (nI (shn D s)) z) k (nI (shn D s)) (if ftb D U k (shn D s) (D 9 1) = true then 1 else 0) (nI (D 9 1)) N = _
      unfold f_Mo_fitsSet_b17
      rw [g2, if_pos (nI_le (Nat.le_refl _) (by omega))]
  obtain ⟨o, k1, rfl⟩ := key
  unfold f_Mo_fitsSet
  rw [turnedBy_ok hR (by omega), bnd_s, hR.2.2.2.2.2.1.1.2.1, nx_xor]
  show bnd (f_Mo_fitsSet_l17 k (nI (shn D s)) fu 1 0 N) _ = _
  rw [k1, bnd_s]
  by_cases q : ftb D U k (shn D s) (D 9 1) = true
  · rw [if_pos q, ckB_1]
  · rw [if_neg q, ckB_0]
