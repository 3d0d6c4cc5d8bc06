/-! a token of the reference -/
def TM (B : Nat → Nat) (z : Nat) (N : AM) : Prop := gI N 105 5 = nI z ∧ ∀ i, i < z → gI N 106 i = nI (B i)
def FM (N K : AM) : Prop := (∀ c k, gR K c k = gR N c k) ∧ (∀ c k, ¬ (c = 105 ∧ (k = 4 ∨ k = 6 ∨ k = 7 ∨ k = 8)) → gI K c k = gI N c k) ∧ ∀ c k, ¬ (c = 105 ∧ k = 9) → gL K c k = gL N c k
theorem FM.rfl' {N : AM} : FM N N := ⟨fun _ _ => rfl, fun _ _ _ => rfl, fun _ _ _ => rfl⟩
theorem FM.trans {N K J : AM} (h : FM N K) (h2 : FM K J) : FM N J := ⟨fun c k => (h2.1 c k).trans (h.1 c k), fun c k q => (h2.2.1 c k q).trans (h.2.1 c k q), fun c k q => (h2.2.2 c k q).trans (h.2.2 c k q)⟩
theorem FM.sI {N K : AM} (h : FM N K) {k : Nat} {v : Int32} (hk : k = 4 ∨ k = 6 ∨ k = 7 ∨ k = 8) : FM N (sI K 105 k v) := ⟨h.1, fun a b q => by rw [gI_sI, if_neg (fun e => q ⟨e.1, by rw [e.2]; exact hk⟩)]; exact h.2.1 a b q, h.2.2⟩
theorem FM.sL {N K : AM} (h : FM N K) {v : Int64} : FM N (sL K 105 9 v) := ⟨h.1, h.2.1, fun a b q => by rw [gL_sL, if_neg q]; exact h.2.2 a b q⟩
theorem TM.fm {B : Nat → Nat} {z : Nat} {N K : AM} (h : TM B z N) (hf : FM N K) : TM B z K := ⟨by rw [hf.2.1 105 5 (by omega)]; exact h.1, fun i hi => by rw [hf.2.1 106 i (by omega)]; exact h.2 i hi⟩
section MTK
variable {B : Nat → Nat} {z : Nat} {N : AM}
theorem here_ok (hz : z ≤ 1600) (hB : ∀ i, i < z → B i < 256) (hT : TM B z N) {p k : Nat} (hp : p + k < 2 ^ 31) (h4 : gI N 105 4 = nI p) : f_Mo_here (nI k) N = some (atI (byt B z (p + k)), N) := by
  unfold f_Mo_here byt atI
  rw [hT.1, h4, nI_add]
  by_cases h : p + k < z
  · have := hB _ h
    rw [if_neg (nI_ge h (by omega)), ald_nI (by omega) (by decide), hT.2 _ h, if_pos h, if_neg (by omega)]
  · rw [if_pos (nI_le (by omega) (by omega)), if_neg h, if_pos rfl]
theorem letM_ok {c : Nat} (hc : c ≤ 256) (M : AM) : f_Mo_isLetter (atI c) M = some (if ltr c = true then 1 else 0, M) := let_ok hc M
theorem digM_ok {c : Nat} (hc : c ≤ 256) (M : AM) : f_Mo_isDigit (atI c) M = some (if dgt c = true then 1 else 0, M) := dig_ok hc M
theorem sgn_all : ∀ c, c < 256 → ((nI c = 59 ∨ nI c = 40 ∨ nI c = 41 ∨ nI c = 60 ∨ nI c = 62 ∨ nI c = 61 ∨ nI c = 43 ∨ nI c = 45 ∨ nI c = 42 ∨ nI c = 47 ∨ nI c = 37) ↔ sgn c = true) := by decide +kernel
theorem isSign_ok {c : Nat} (hc : c < 256) (M : AM) : f_Mo_isSign (nI c) M = some (if sgn c = true then 1 else 0, M) := by
  have h := sgn_all c hc
  unfold f_Mo_isSign f_Mo_isSign_j66
  by_cases h0 : nI c = 59
  · rw [if_pos h0, if_pos (h.mp (Or.inl h0))]
  rw [if_neg h0]
  by_cases h1 : nI c = 40
  · rw [if_pos h1, if_pos (h.mp (Or.inr (Or.inl h1)))]
  rw [if_neg h1]
  by_cases h2 : nI c = 41
  · rw [if_pos h2, if_pos (h.mp (Or.inr (Or.inr (Or.inl h2))))]
  rw [if_neg h2]
  by_cases h3 : nI c = 60
  · rw [if_pos h3, if_pos (h.mp (Or.inr (Or.inr (Or.inr (Or.inl h3)))))]
  rw [if_neg h3]
  by_cases h4 : nI c = 62
  · rw [if_pos h4, if_pos (h.mp (Or.inr (Or.inr (Or.inr (Or.inr (Or.inl h4))))))]
  rw [if_neg h4]
  by_cases h5 : nI c = 61
  · rw [if_pos h5, if_pos (h.mp (Or.inr (Or.inr (Or.inr (Or.inr (Or.inr (Or.inl h5)))))))]
  rw [if_neg h5]
  by_cases h6 : nI c = 43
  · rw [if_pos h6, if_pos (h.mp (Or.inr (Or.inr (Or.inr (Or.inr (Or.inr (Or.inr (Or.inl h6))))))))]
  rw [if_neg h6]
  by_cases h7 : nI c = 45
  · rw [if_pos h7, if_pos (h.mp (Or.inr (Or.inr (Or.inr (Or.inr (Or.inr (Or.inr (Or.inr (Or.inl h7)))))))))]
  rw [if_neg h7]
  by_cases h8 : nI c = 42
  · rw [if_pos h8, if_pos (h.mp (Or.inr (Or.inr (Or.inr (Or.inr (Or.inr (Or.inr (Or.inr (Or.inr (Or.inl h8))))))))))]
  rw [if_neg h8]
  by_cases h9 : nI c = 47
  · rw [if_pos h9, if_pos (h.mp (Or.inr (Or.inr (Or.inr (Or.inr (Or.inr (Or.inr (Or.inr (Or.inr (Or.inr (Or.inl h9)))))))))))]
  rw [if_neg h9]
  by_cases h10 : nI c = 37
  · rw [if_pos h10, if_pos (h.mp (Or.inr (Or.inr (Or.inr (Or.inr (Or.inr (Or.inr (Or.inr (Or.inr (Or.inr (Or.inr (h10))))))))))))]
  rw [if_neg h10]
  rw [if_neg (fun q => by
    rcases h.mpr q with e0 | e1 | e2 | e3 | e4 | e5 | e6 | e7 | e8 | e9 | e10
    · exact h0 e0
    · exact h1 e1
    · exact h2 e2
    · exact h3 e3
    · exact h4 e4
    · exact h5 e5
    · exact h6 e6
    · exact h7 e7
    · exact h8 e8
    · exact h9 e9
    · exact h10 e10)]
/-- only one number has changed -/
def PX (c0 k0 : Nat) (N K : AM) (q : Nat) : Prop := gI K c0 k0 = nI q ∧ (∀ c k, ¬ (c = c0 ∧ k = k0) → gI K c k = gI N c k) ∧ (∀ c k, gR K c k = gR N c k) ∧ ∀ c k, gL K c k = gL N c k
theorem PX.fm {K : AM} {k0 q : Nat} (hk : k0 = 4 ∨ k0 = 6 ∨ k0 = 7 ∨ k0 = 8) (h : PX 105 k0 N K q) : FM N K := ⟨h.2.2.1, fun c k a => h.2.1 c k (fun e => a ⟨e.1, by rw [e.2]; exact hk⟩), fun c k _ => h.2.2.2 c k⟩
theorem PX.go {c0 k0 : Nat} {K : AM} {q q' : Nat} (h : PX c0 k0 N K q) : PX c0 k0 N (sI K c0 k0 (nI q')) q' := ⟨by rw [gI_sI, if_pos ⟨rfl, rfl⟩], fun c k e => by rw [gI_sI, if_neg e]; exact h.2.1 c k e, h.2.2.1, h.2.2.2⟩
theorem skipM_ok (hz : z ≤ 1600) (hB : ∀ i, i < z → B i < 256) (hT : TM B z N) {p : Nat} (hp : p ≤ 1600) (h4 : gI N 105 4 = nI p) : ∃ K, f_Mo_token_l0 fu N = some ((), K) ∧ PX 105 4 N K (tkS (byt B z) p) := by
  obtain ⟨r1, r2, r3⟩ := rl_ok (P := blk) (B := B) hz rfl p
  unfold tkS
  generalize hn : rl blk (byt B z) p = n at *
  have key : ∃ o, f_Mo_token_l0 fu N = some o ∧ PX 105 4 N o.2 (p + n) := by
    refine for_inv (fun y (s : AM) => f_Mo_token_l0 y s) (fun j s => PX 105 4 N s (p + j)) n _ (fun j K y hj i1 => ?_) (fun K y i1 => ?_) n 0 N fu (by omega) (by rw [fu_eq]; omega) ⟨h4, fun _ _ _ => rfl, fun _ _ => rfl, fun _ _ => rfl⟩
    · left
      have hTK := hT.fm (i1.fm (by omega))
      have hb := r1 j hj
      have hle := byt_le hB (p + j)
      have hh := here_ok hz hB hTK (p := p + j) (k := 0) (by omega) i1.1
      rw [Nat.add_zero, nI_0] at hh
      refine ⟨sI K 105 4 (nI (p + (j + 1))), i1.go, ?_⟩
      show f_Mo_token_b0 (f_Mo_token_l0 y) K = _
      unfold f_Mo_token_b0 f_Mo_token_j20
      rw [hh, bnd_s, hh, bnd_s, i1.1, wI_eq, nI_1, Nat.add_assoc]
      rcases blk_iff.mp hb with e | e
      · rw [if_pos ((atI_eq _ (by omega)).1.mpr e)]
      · rw [if_neg (fun q => by have := (atI_eq _ (by omega)).1.mp q; omega), if_pos ((atI_eq _ (by omega)).2.1.mpr e)]
    · have hTK := hT.fm (i1.fm (by omega))
      have hle := byt_le hB (p + n)
      have hh := here_ok hz hB hTK (p := p + n) (k := 0) (by omega) i1.1
      rw [Nat.add_zero, nI_0] at hh
      have hno : ¬ (byt B z (p + n) = 32 ∨ byt B z (p + n) = 10) := fun e => by rw [blk_iff.mpr e] at r2; cases r2
      refine ⟨((), K), ?_, i1⟩
      show f_Mo_token_b0 (f_Mo_token_l0 y) K = _
      unfold f_Mo_token_b0
      rw [hh, bnd_s, hh, bnd_s, if_neg (fun q => hno (Or.inl ((atI_eq _ (by omega)).1.mp q))), if_neg (fun q => hno (Or.inr ((atI_eq _ (by omega)).2.1.mp q)))]
  obtain ⟨⟨u, K⟩, k1, k2⟩ := key
  exact ⟨K, k1, k2⟩
theorem l8_ok {a c : Nat} (ha : a < 2 ^ 56) (hc : c < 256) : (lN a <<< ((8 : Int32).toInt64 &&& 63)) ||| lN c = lN (a * 256 + c) := by
  have e : ((8 : Int32).toInt64 &&& 63) = 8 := by decide
  rw [e]
  apply Int64.toBitVec_inj.1
  apply BitVec.eq_of_toNat_eq
  rw [Int64.toBitVec_or, Int64.toBitVec_shiftLeft]
  have e2 : (8 : Int64).toBitVec.smod 64 = 8#64 := by decide
  rw [e2]
  show (BitVec.ofNat 64 a <<< 8#64 ||| BitVec.ofNat 64 c).toNat = (BitVec.ofNat 64 (a * 256 + c)).toNat
  rw [BitVec.toNat_or, BitVec.shiftLeft_eq', BitVec.toNat_shiftLeft, BitVec.toNat_ofNat, BitVec.toNat_ofNat, BitVec.toNat_ofNat, BitVec.toNat_ofNat, show 8 % 2 ^ 64 = 8 from rfl, Nat.mod_eq_of_lt (show a < 2 ^ 64 by omega), Nat.mod_eq_of_lt (show c < 2 ^ 64 by omega), Nat.mod_eq_of_lt (show a * 256 + c < 2 ^ 64 by omega), Nat.shiftLeft_eq, Nat.mod_eq_of_lt (show a * 2 ^ 8 < 2 ^ 64 by omega)]
  have := Nat.shiftLeft_add_eq_or_of_lt (show c < 2 ^ 8 from hc) a
  rw [Nat.shiftLeft_eq] at this
  rw [← this]
/-- the letters of a word -/
theorem wordM (hz : z ≤ 1600) (hB : ∀ i, i < z → B i < 256) (hT : TM B z N) {q : Nat} (hq : q ≤ 1600) (h4 : gI N 105 4 = nI q) (h9 : gL N 105 9 = 0) : ∃ K, f_Mo_token_l78 fu 0 N = some (nI (rl ltr (byt B z) q), K) ∧ FM N K ∧ (∀ c k, gI K c k = gI N c k) ∧ gL K 105 9 = lN (wdk (fun t => byt B z (q + t)) (min (rl ltr (byt B z) q) 8)) := by
  obtain ⟨r1, r2, r3⟩ := rl_ok (P := ltr) (B := B) hz rfl q
  generalize hn : rl ltr (byt B z) q = n at *
  have key : ∃ o, f_Mo_token_l78 fu 0 N = some o ∧ (o.1 = nI n ∧ FM N o.2 ∧ (∀ c k, gI o.2 c k = gI N c k) ∧ gL o.2 105 9 = lN (wdk (fun t => byt B z (q + t)) (min n 8))) := by
    refine for_inv (fun y (s : Int32 × AM) => f_Mo_token_l78 y s.1 s.2) (fun j s => s.1 = nI j ∧ FM N s.2 ∧ (∀ c k, gI s.2 c k = gI N c k) ∧ gL s.2 105 9 = lN (wdk (fun t => byt B z (q + t)) (min j 8))) n _ (fun j s y hj hI => ?_) (fun s y hI => ?_) n 0 (0, N) fu (by omega) (by rw [fu_eq]; omega) ⟨rfl, FM.rfl', fun _ _ => rfl, by rw [h9]; rfl⟩
    · obtain ⟨v, K⟩ := s
      obtain ⟨rfl, i1, i2, i3⟩ := hI
      simp only at i1 i2 i3
      left
      have hTK := hT.fm i1
      have hb := r1 j hj
      have hl := ltr_iff.mp hb
      have hle := byt_le hB (q + j)
      have h4K : gI K 105 4 = nI q := by rw [i2]; exact h4
      have hh := here_ok hz hB hTK (p := q) (k := j) (by omega) h4K
      by_cases e8 : 8 ≤ j
      · refine ⟨(nI (j + 1), K), ⟨rfl, i1, i2, ?_⟩, ?_⟩
        · show gL K 105 9 = _
          rw [i3, Nat.min_eq_right e8, Nat.min_eq_right (by omega)]
        · show f_Mo_token_b78 (f_Mo_token_l78 y) (nI j) K = _
          unfold f_Mo_token_b78
          rw [hh, bnd_s, letM_ok hle, bnd_s, if_pos hb, if_neg (by decide), nI_lit 8, if_pos (nI_le e8 (by omega)), nI_1]
      · have hw := wdk_lt (g := fun t => byt B z (q + t)) j (fun t ht => by have := ltr_iff.mp (r1 t (by omega)); show byt B z (q + t) < 256; omega)
        have hp : 256 ^ j ≤ 256 ^ 7 := Nat.pow_le_pow_right (by decide) (by omega)
        refine ⟨(nI (j + 1), sL K 105 9 (lN (wdk (fun t => byt B z (q + t)) (j + 1)))), ⟨rfl, i1.sL, i2, ?_⟩, ?_⟩
        · rw [gL_sL, if_pos ⟨rfl, rfl⟩, Nat.min_eq_left (by omega)]
        · show f_Mo_token_b78 (f_Mo_token_l78 y) (nI j) K = _
          unfold f_Mo_token_b78
          rw [hh, bnd_s, letM_ok hle, bnd_s, if_pos hb, if_neg (by decide), nI_lit 8, if_neg (nI_ge (by omega) (by decide)), hh, bnd_s, wL_eq, i3, Nat.min_eq_left (by omega), atI_n (by omega), nI_l (n := byt B z (q + j)) (by omega), nI_1, wdk_s]
          have := l8_ok (a := wdk (fun t => byt B z (q + t)) j) (c := byt B z (q + j)) (by omega) (by omega)
          rw [← this]
          rfl
    · obtain ⟨v, K⟩ := s
      obtain ⟨rfl, i1, i2, i3⟩ := hI
      simp only at i1 i2 i3
      have hTK := hT.fm i1
      have hle := byt_le hB (q + n)
      have h4K : gI K 105 4 = nI q := by rw [i2]; exact h4
      have hh := here_ok hz hB hTK (p := q) (k := n) (by omega) h4K
      refine ⟨(nI n, K), ?_, rfl, i1, i2, i3⟩
      show f_Mo_token_b78 (f_Mo_token_l78 y) (nI n) K = _
      unfold f_Mo_token_b78
      rw [hh, bnd_s, letM_ok hle, bnd_s, r2, if_pos (by decide)]
  obtain ⟨⟨v, K⟩, k1, k2, k3, k4, k5⟩ := key
  simp only at k2
  exact ⟨K, by rw [k1, k2], k3, k4, k5⟩
theorem numM (hz : z ≤ 1600) (hB : ∀ i, i < z → B i < 256) (hT : TM B z N) {q : Nat} (hq : q ≤ 1600) (h4 : gI N 105 4 = nI q) (h8 : gI N 105 8 = 0) : ∃ K, f_Mo_token_l144 fu 0 N = some (nI (rl dgt (byt B z) q), K) ∧ PX 105 8 N K (nbk (fun t => byt B z (q + t)) (min (rl dgt (byt B z) q) 4)) := by
  obtain ⟨r1, r2, r3⟩ := rl_ok (P := dgt) (B := B) hz rfl q
  generalize hn : rl dgt (byt B z) q = n at *
  have key : ∃ o, f_Mo_token_l144 fu 0 N = some o ∧ (o.1 = nI n ∧ PX 105 8 N o.2 (nbk (fun t => byt B z (q + t)) (min n 4))) := by
    refine for_inv (fun y (s : Int32 × AM) => f_Mo_token_l144 y s.1 s.2) (fun j s => s.1 = nI j ∧ PX 105 8 N s.2 (nbk (fun t => byt B z (q + t)) (min j 4))) n _ (fun j s y hj hI => ?_) (fun s y hI => ?_) n 0 (0, N) fu (by omega) (by rw [fu_eq]; omega) ⟨rfl, h8, fun _ _ _ => rfl, fun _ _ => rfl, fun _ _ => rfl⟩
    · obtain ⟨v, K⟩ := s
      obtain ⟨rfl, i1⟩ := hI
      simp only at i1
      left
      have hTK := hT.fm (i1.fm (by omega))
      have hb := r1 j hj
      have hl := dgt_iff.mp hb
      have hle := byt_le hB (q + j)
      have h4K : gI K 105 4 = nI q := by rw [i1.2.1 105 4 (by omega)]; exact h4
      have hh := here_ok hz hB hTK (p := q) (k := j) (by omega) h4K
      by_cases e8 : 4 ≤ j
      · refine ⟨(nI (j + 1), K), ⟨rfl, ?_⟩, ?_⟩
        · show PX 105 8 N K _
          rw [Nat.min_eq_right (by omega)]
          rw [Nat.min_eq_right e8] at i1
          exact i1
        · show f_Mo_token_b144 (f_Mo_token_l144 y) (nI j) K = _
          unfold f_Mo_token_b144
          rw [hh, bnd_s, digM_ok hle, bnd_s, if_pos hb, if_neg (by decide), nI_lit 4, if_pos (nI_le e8 (by omega)), nI_1]
      · rw [Nat.min_eq_left (by omega)] at i1
        refine ⟨(nI (j + 1), sI K 105 8 (nI (nbk (fun t => byt B z (q + t)) (j + 1)))), ⟨rfl, ?_⟩, ?_⟩
        · show PX 105 8 N (sI K 105 8 (nI (nbk (fun t => byt B z (q + t)) (j + 1)))) _
          rw [Nat.min_eq_left (by omega)]
          exact i1.go
        · show f_Mo_token_b144 (f_Mo_token_l144 y) (nI j) K = _
          unfold f_Mo_token_b144
          rw [hh, bnd_s, digM_ok hle, bnd_s, if_pos hb, if_neg (by decide), nI_lit 4, if_neg (nI_ge (by omega) (by decide)), hh, bnd_s, wI_eq, i1.1, nI_lit 10, pk_mul, atI_n (by omega), nI_add, nI_lit 48, pk_sub (by omega), nI_1, nbk_s, show 10 * nbk (fun t => byt B z (q + t)) j + byt B z (q + j) - 48 = nbk (fun t => byt B z (q + t)) j * 10 + (byt B z (q + j) - 48) by omega]
    · obtain ⟨v, K⟩ := s
      obtain ⟨rfl, i1⟩ := hI
      simp only at i1
      have hTK := hT.fm (i1.fm (by omega))
      have hle := byt_le hB (q + n)
      have h4K : gI K 105 4 = nI q := by rw [i1.2.1 105 4 (by omega)]; exact h4
      have hh := here_ok hz hB hTK (p := q) (k := n) (by omega) h4K
      refine ⟨(nI n, K), ?_, rfl, i1⟩
      show f_Mo_token_b144 (f_Mo_token_l144 y) (nI n) K = _
      unfold f_Mo_token_b144
      rw [hh, bnd_s, digM_ok hle, bnd_s, r2, if_pos (by decide)]
  obtain ⟨⟨v, K⟩, k1, k2, k3⟩ := key
  simp only at k2
  exact ⟨K, by rw [k1, k2], k3⟩
/-- the sort that the reference gives a kind -/
def srt (k : Nat) : Nat := if k = 0 then 0 else if k = 1 then 3 else if k = 3 then 2 else if k = 2 ∨ 128 ≤ k then 1 else k
/-- the reference stands at token i -/
def MT (f : Nat → Nat) (N : AM) (i : Nat) : Prop := gI N 105 4 = nI (stm f (i + 1)) ∧ gI N 105 6 = nI (srt (knd f i)) ∧ gI N 105 7 = nI (plc f i) ∧ (knd f i = 3 → gI N 105 8 = nI (tkD f (plc f i))) ∧ (knd f i = 2 ∨ 128 ≤ knd f i → gL N 105 9 = lN (tkW f (plc f i)))
theorem srt_word {w : Nat} : srt (kwd w) = 1 := by
  unfold srt
  rcases kwd_cases w with e | ⟨k, hk, e⟩
  · rw [e]; rfl
  · rw [e, if_neg (by omega), if_neg (by omega), if_neg (by omega), if_pos (by omega)]
theorem endM_ok {K : AM} {q n s : Nat} (h4 : gI K 105 4 = nI q) (hs : s ≠ 3) (hsl : s < 300) : f_Mo_token_j232 (nI n) (sI K 105 6 (nI s)) = some ((), sI (sI K 105 6 (nI s)) 105 4 (nI (q + n))) := by
  unfold f_Mo_token_j232
  have e6 : gI (sI K 105 6 (nI s)) 105 6 = nI s := by rw [gI_sI, if_pos ⟨rfl, rfl⟩]
  have e4 : gI (sI K 105 6 (nI s)) 105 4 = nI q := by rw [gI_sI, if_neg (by omega)]; exact h4
  rw [e6, nI_lit 3, if_neg (fun e => hs ((nI_eq (by omega) (by decide)).mp e)), wI_eq, e4, nI_add]
theorem token_ok (hz : z ≤ 1600) (hB : ∀ i, i < z → B i < 256) (hT : TM B z N) {i : Nat} (h4 : gI N 105 4 = nI (stm (byt B z) i)) : ∃ K, f_Mo_token N = some ((), K) ∧ MT (byt B z) K i ∧ FM N K := by
  have hst := stm_le hz hB i
  have hpl := plc_le hz hB i
  obtain ⟨K0, s1, s2⟩ := skipM_ok hz hB hT (show stm (byt B z) i ≤ 1600 by omega) h4
  have hq : tkS (byt B z) (stm (byt B z) i) = plc (byt B z) i := rfl
  rw [hq] at s2
  have f0 := s2.fm (by omega)
  generalize hqq : plc (byt B z) i = q at *
  have hle := byt_le hB q
  have f1 : FM N (sI K0 105 7 (nI q)) := f0.sI (by omega)
  have h41 : gI (sI K0 105 7 (nI q)) 105 4 = nI q := by rw [gI_sI, if_neg (by omega)]; exact s2.1
  have hh := here_ok hz hB (hT.fm f1) (p := q) (k := 0) (by omega) h41
  rw [Nat.add_zero, nI_0] at hh
  have f2 : FM N (sI (sL (sI K0 105 7 (nI q)) 105 9 0) 105 8 0) := (f1.sL).sI (by omega)
  generalize hK1 : sI (sL (sI K0 105 7 (nI q)) 105 9 0) 105 8 0 = K1 at *
  have g4 : gI K1 105 4 = nI q := by rw [← hK1, gI_sI, if_neg (by omega)]; exact h41
  have g7 : gI K1 105 7 = nI q := by rw [← hK1, gI_sI, if_neg (by omega), gI_sL, gI_sI, if_pos ⟨rfl, rfl⟩]
  have g8 : gI K1 105 8 = 0 := by rw [← hK1, gI_sI, if_pos ⟨rfl, rfl⟩]
  have g9 : gL K1 105 9 = 0 := by rw [← hK1]; rfl
  have hTK := hT.fm f2
  have hkn : knd (byt B z) i = tkQ (byt B z) q := by unfold knd; rw [hqq]
  have hsn : stm (byt B z) (i + 1) = tkN (byt B z) q := by rw [stm_s, hq]
  have start : f_Mo_token N = (if 0 ≤ atI (byt B z q) then bnd (f_Mo_isLetter (atI (byt B z q)) K1) (fun r8 M9 => if r8 = 0 then bnd (f_Mo_isDigit (atI (byt B z q)) M9) (fun r10 M11 => if r10 = 0 then bnd (f_Mo_isSign (atI (byt B z q)) M11) (fun r12 M13 => if r12 = 0 then f_Mo_token_j229 1 3 M13 else f_Mo_token_j229 1 (atI (byt B z q)) M13) else bnd (f_Mo_token_l144 fu 0 M11) (fun y14 M15 => if 4 < y14 then f_Mo_token_j203 y14 M15 else bnd (f_Mo_here y14 M15) (fun r16 M17 => bnd (f_Mo_isLetter r16 M17) (fun r18 M19 => if r18 = 0 then f_Mo_token_j208 y14 2 M19 else f_Mo_token_j203 y14 M19)))) else bnd (f_Mo_token_l78 fu 0 M9) (fun y20 M21 => if y20 ≤ 8 then f_Mo_token_j131 y20 1 M21 else f_Mo_token_j131 y20 3 M21)) else wI K1 105 6 0 (fun M22 => f_Mo_token_j232 0 M22)) := by
    unfold f_Mo_token
    rw [s1, bnd_s]
    simp only [wI_eq, wL_eq]
    rw [s2.1, hh, bnd_s, hK1]
  rw [start, letM_ok hle, bnd_s, digM_ok hle, bnd_s]
  have bad : ∀ (n : Int32) (K : AM), f_Mo_token_j232 n (sI K 105 6 3) = some ((), sI K 105 6 3) := fun n K => by
    unfold f_Mo_token_j232
    have e6 : gI (sI K 105 6 3) 105 6 = 3 := by rw [gI_sI, if_pos ⟨rfl, rfl⟩]
    rw [e6, if_pos rfl]
  by_cases a : byt B z q = 256
  · have hQ : tkQ (byt B z) q = 0 := by unfold tkQ; rw [if_pos a]
    have he := endM_ok (K := K1) (n := 0) (s := 0) g4 (by decide) (by decide)
    rw [nI_0] at he
    refine ⟨sI (sI K1 105 6 0) 105 4 (nI (q + 0)), ?_, ⟨?_, ?_, ?_, fun x => ?_, fun x => ?_⟩, (f2.sI (Or.inr (Or.inl rfl))).sI (Or.inl rfl)⟩
    · rw [if_neg (fun x => (atI_eq _ (by omega)).2.2.mp x a), wI_eq]; exact he
    · rw [gI_sI, if_pos ⟨rfl, rfl⟩, hsn, tkQ_stay (by omega), Nat.add_zero]
    · rw [gI_sI, if_neg (by omega), gI_sI, if_pos ⟨rfl, rfl⟩, hkn, hQ]; rfl
    · rw [gI_sI, if_neg (by omega), gI_sI, if_neg (by omega), hqq]; exact g7
    · omega
    · omega
  · rw [if_pos ((atI_eq _ (by omega)).2.2.mpr a)]
    by_cases b : ltr (byt B z q) = true
    · rw [if_pos b, if_neg (by decide)]
      have hQ : tkQ (byt B z) q = if 8 < rl ltr (byt B z) q then 1 else kwd (tkW (byt B z) q) := by unfold tkQ; rw [if_neg a, if_pos b]
      have r3 := (rl_ok (P := ltr) (B := B) hz rfl q).2.2
      obtain ⟨K2, w1, w2, w3, w4⟩ := wordM hz hB hTK (show q ≤ 1600 by omega) g4 g9
      rw [w1, bnd_s]
      unfold f_Mo_token_j131
      by_cases e : 8 < rl ltr (byt B z) q
      · rw [if_pos e] at hQ
        refine ⟨sI K2 105 6 3, ?_, ⟨?_, ?_, ?_, fun x => ?_, fun x => ?_⟩, (f2.trans w2).sI (by omega)⟩
        · rw [nI_lit 8, if_neg (nI_ge e (by omega)), wI_eq]; exact bad _ _
        · rw [gI_sI, if_neg (by omega), w3, hsn, tkQ_stay (by omega)]; exact g4
        · rw [gI_sI, if_pos ⟨rfl, rfl⟩, hkn, hQ]; rfl
        · rw [gI_sI, if_neg (by omega), w3, hqq]; exact g7
        · omega
        · omega
      · rw [if_neg e] at hQ
        have hN : tkN (byt B z) q = q + rl ltr (byt B z) q := by unfold tkN; rw [if_neg (by rw [hQ]; have := kwd_ge (tkW (byt B z) q); omega), if_neg a, if_pos b]
        have he := endM_ok (K := K2) (n := rl ltr (byt B z) q) (s := 1) (by rw [w3]; exact g4) (by decide) (by decide)
        refine ⟨sI (sI K2 105 6 (nI 1)) 105 4 (nI (q + rl ltr (byt B z) q)), ?_, ⟨?_, ?_, ?_, fun x => ?_, fun x => ?_⟩, ((f2.trans w2).sI (Or.inr (Or.inl rfl))).sI (Or.inl rfl)⟩
        · rw [nI_lit 8, if_pos (nI_le (by omega) (by decide)), wI_eq]; exact he
        · rw [gI_sI, if_pos ⟨rfl, rfl⟩, hsn, hN]
        · rw [gI_sI, if_neg (by omega), gI_sI, if_pos ⟨rfl, rfl⟩, hkn, hQ, srt_word]
        · rw [gI_sI, if_neg (by omega), gI_sI, if_neg (by omega), w3, hqq]; exact g7
        · rw [hkn, hQ] at x
          rcases kwd_cases (tkW (byt B z) q) with y | ⟨k, -, y⟩ <;> omega
        · show gL K2 105 9 = _
          rw [w4, Nat.min_eq_left (by omega), hqq]; rfl
    · rw [if_neg b, if_pos rfl]
      by_cases d : dgt (byt B z q) = true
      · rw [if_pos d, if_neg (by decide)]
        have hQ : tkQ (byt B z) q = if 4 < rl dgt (byt B z) q ∨ ltr (byt B z (q + rl dgt (byt B z) q)) = true then 1 else 3 := by unfold tkQ; rw [if_neg a, if_neg b, if_pos d]
        have r3 := (rl_ok (P := dgt) (B := B) hz rfl q).2.2
        obtain ⟨K2, w1, w2⟩ := numM hz hB hTK (show q ≤ 1600 by omega) g4 g8
        have w2f := w2.fm (by omega)
        have k4 : gI K2 105 4 = nI q := by rw [w2.2.1 105 4 (by omega)]; exact g4
        have k7 : gI K2 105 7 = nI q := by rw [w2.2.1 105 7 (by omega)]; exact g7
        have hh2 := here_ok hz hB (hTK.fm w2f) (p := q) (k := rl dgt (byt B z) q) (by omega) k4
        have hle2 := byt_le hB (q + rl dgt (byt B z) q)
        rw [w1, bnd_s, hh2, bnd_s, letM_ok hle2, bnd_s]
        unfold f_Mo_token_j203 f_Mo_token_j208
        by_cases e : 4 < rl dgt (byt B z) q ∨ ltr (byt B z (q + rl dgt (byt B z) q)) = true
        · rw [if_pos e] at hQ
          refine ⟨sI K2 105 6 3, ?_, ⟨?_, ?_, ?_, fun x => ?_, fun x => ?_⟩, (f2.trans w2f).sI (by omega)⟩
          · by_cases e1 : 4 < rl dgt (byt B z) q
            · rw [nI_lit 4, if_pos (nI_lt e1 (by omega)), wI_eq]; exact bad _ _
            · rw [nI_lit 4, if_neg (nI_nlt (by omega) (by decide)), if_pos (e.resolve_left e1), if_neg (by decide), wI_eq]; exact bad _ _
          · rw [gI_sI, if_neg (by omega), hsn, tkQ_stay (by omega)]; exact k4
          · rw [gI_sI, if_pos ⟨rfl, rfl⟩, hkn, hQ]; rfl
          · rw [gI_sI, if_neg (by omega), hqq]; exact k7
          · omega
          · omega
        · rw [if_neg e] at hQ
          have e1 : ¬ 4 < rl dgt (byt B z) q := fun x => e (Or.inl x)
          have e2 : ¬ ltr (byt B z (q + rl dgt (byt B z) q)) = true := fun x => e (Or.inr x)
          have hN : tkN (byt B z) q = q + rl dgt (byt B z) q := by unfold tkN; rw [if_neg (by omega), if_neg a, if_neg b, if_pos d]
          have he := endM_ok (K := K2) (n := rl dgt (byt B z) q) (s := 2) k4 (by decide) (by decide)
          refine ⟨sI (sI K2 105 6 (nI 2)) 105 4 (nI (q + rl dgt (byt B z) q)), ?_, ⟨?_, ?_, ?_, fun x => ?_, fun x => ?_⟩, ((f2.trans w2f).sI (Or.inr (Or.inl rfl))).sI (Or.inl rfl)⟩
          · rw [nI_lit 4, if_neg (nI_nlt (by omega) (by decide)), if_neg e2, if_pos rfl, wI_eq]; exact he
          · rw [gI_sI, if_pos ⟨rfl, rfl⟩, hsn, hN]
          · rw [gI_sI, if_neg (by omega), gI_sI, if_pos ⟨rfl, rfl⟩, hkn, hQ]; rfl
          · rw [gI_sI, if_neg (by omega), gI_sI, if_neg (by omega), hqq]; exact k7
          · rw [gI_sI, if_neg (by omega), gI_sI, if_neg (by omega), w2.1, hqq, Nat.min_eq_left (by omega)]; rfl
          · omega
      · rw [if_neg d, if_pos rfl, atI_n (by omega), isSign_ok (by omega), bnd_s]
        have hQ : tkQ (byt B z) q = if sgn (byt B z q) = true then byt B z q else 1 := by unfold tkQ; rw [if_neg a, if_neg b, if_neg d]
        unfold f_Mo_token_j229
        by_cases e : sgn (byt B z q) = true
        · rw [if_pos e] at hQ
          have hs := sgn_ge e
          have hN : tkN (byt B z) q = q + 1 := by unfold tkN; rw [if_neg (by omega), if_neg a, if_neg b, if_neg d]
          have he := endM_ok (K := K1) (n := 1) (s := byt B z q) g4 (by omega) (by omega)
          refine ⟨sI (sI K1 105 6 (nI (byt B z q))) 105 4 (nI (q + 1)), ?_, ⟨?_, ?_, ?_, fun x => ?_, fun x => ?_⟩, (f2.sI (Or.inr (Or.inl rfl))).sI (Or.inl rfl)⟩
          · rw [if_pos e, if_neg (by decide), wI_eq]; exact he
          · rw [gI_sI, if_pos ⟨rfl, rfl⟩, hsn, hN]
          · rw [gI_sI, if_neg (by omega), gI_sI, if_pos ⟨rfl, rfl⟩, hkn, hQ]
            unfold srt
            rw [if_neg (by omega), if_neg (by omega), if_neg (by omega), if_neg (by omega)]
          · rw [gI_sI, if_neg (by omega), gI_sI, if_neg (by omega), hqq]; exact g7
          · omega
          · omega
        · rw [if_neg e] at hQ
          refine ⟨sI K1 105 6 3, ?_, ⟨?_, ?_, ?_, fun x => ?_, fun x => ?_⟩, f2.sI (by omega)⟩
          · rw [if_neg e, if_pos rfl, wI_eq]; exact bad _ _
          · rw [gI_sI, if_neg (by omega), hsn, tkQ_stay (by omega)]; exact g4
          · rw [gI_sI, if_pos ⟨rfl, rfl⟩, hkn, hQ]; rfl
          · rw [gI_sI, if_neg (by omega), hqq]; exact g7
          · omega
          · omega
end MTK
