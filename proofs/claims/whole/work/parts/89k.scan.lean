/-! the class cuts its tape -/
def TV (B : Nat → Nat) (z : Nat) (N : AM) : Prop := gI N 1 1 = nI z ∧ ∀ i, i < z → gI N 2 i = (nI (B i)).toInt8.toInt32
def atI (c : Nat) : Int32 := if c = 256 then -1 else nI c
def F3 (N K : AM) : Prop := (∀ c k, gR K c k = gR N c k) ∧ (∀ c k, c ≠ 3 → c ≠ 4 → c ≠ 5 → gI K c k = gI N c k) ∧ ∀ c k, c ≠ 3 → c ≠ 6 → gL K c k = gL N c k
theorem F3.rfl' {N : AM} : F3 N N := ⟨fun _ _ => rfl, fun _ _ _ _ _ => rfl, fun _ _ _ _ => rfl⟩
theorem F3.trans {N K J : AM} (h : F3 N K) (h2 : F3 K J) : F3 N J := ⟨fun c k => (h2.1 c k).trans (h.1 c k), fun c k a b d => (h2.2.1 c k a b d).trans (h.2.1 c k a b d), fun c k a b => (h2.2.2 c k a b).trans (h.2.2 c k a b)⟩
theorem F3.sI {N K : AM} (h : F3 N K) {c k : Nat} {v : Int32} (hc : c = 3 ∨ c = 4 ∨ c = 5) : F3 N (sI K c k v) := ⟨h.1, fun a b x y z => by rw [gI_sI, if_neg (by omega)]; exact h.2.1 a b x y z, h.2.2⟩
theorem F3.sL {N K : AM} (h : F3 N K) {c k : Nat} {v : Int64} (hc : c = 3 ∨ c = 6) : F3 N (sL K c k v) := ⟨h.1, h.2.1, fun a b x y => by rw [gL_sL, if_neg (by omega)]; exact h.2.2 a b x y⟩
theorem TV.f3 {B : Nat → Nat} {z : Nat} {N K : AM} (h : TV B z N) (hf : F3 N K) : TV B z K := ⟨by rw [hf.2.1 1 1 (by decide) (by decide) (by decide)]; exact h.1, fun i hi => by rw [hf.2.1 2 i (by decide) (by decide) (by decide)]; exact h.2 i hi⟩
section SCAN
variable {B : Nat → Nat} {z : Nat} {N : AM}
theorem byt_le (hB : ∀ i, i < z → B i < 256) (i : Nat) : byt B z i ≤ 256 := by
  unfold byt
  split
  · have := hB i (by assumption); omega
  · exact Nat.le_refl _
theorem tape_at (hz : z ≤ 1600) (hB : ∀ i, i < z → B i < 256) (hT : TV B z N) {i : Nat} (hi : i < 2 ^ 31) : f_Tape_at (nI i) N = some (atI (byt B z i), N) := by
  unfold f_Tape_at byt atI
  rw [if_neg (nI_pos hi), hT.1]
  by_cases h : i < z
  · have := hB i h
    rw [if_neg (nI_ge h (by omega)), ald_nI (by omega) (by decide), hT.2 i h, sc_k8 _ this, if_pos h, if_neg (by omega)]
  · rw [if_pos (nI_le (by omega) (by omega)), if_neg h, if_pos rfl]
theorem let_ok {c : Nat} (hc : c ≤ 256) (M : AM) : f_Tokens_isLetter (atI c) M = some (if ltr c = true then 1 else 0, M) := by
  have h : ∀ c, c < 257 → ((atI c < 97 ∨ 122 < atI c) ↔ ¬ ltr c = true) := by decide +kernel
  have h := h c (by omega)
  unfold f_Tokens_isLetter
  by_cases a : atI c < 97
  · rw [if_pos a, if_neg (h.mp (Or.inl a))]
  · rw [if_neg a]
    by_cases b : 122 < atI c
    · rw [if_pos b, if_neg (h.mp (Or.inr b))]
    · rw [if_neg b]
      by_cases d : ltr c = true
      · rw [if_pos d]
      · exact absurd (h.mpr d) (fun q => q.elim a b)
theorem dig_ok {c : Nat} (hc : c ≤ 256) (M : AM) : f_Tokens_isDigit (atI c) M = some (if dgt c = true then 1 else 0, M) := by
  have h : ∀ c, c < 257 → ((atI c < 48 ∨ 57 < atI c) ↔ ¬ dgt c = true) := by decide +kernel
  have h := h c (by omega)
  unfold f_Tokens_isDigit
  by_cases a : atI c < 48
  · rw [if_pos a, if_neg (h.mp (Or.inl a))]
  · rw [if_neg a]
    by_cases b : 57 < atI c
    · rw [if_pos b, if_neg (h.mp (Or.inr b))]
    · rw [if_neg b]
      by_cases d : dgt c = true
      · rw [if_pos d]
      · exact absurd (h.mpr d) (fun q => q.elim a b)
theorem atI_eq : ∀ c, c < 257 → (atI c = 32 ↔ c = 32) ∧ (atI c = 10 ↔ c = 10) ∧ (0 ≤ atI c ↔ c ≠ 256) := by decide +kernel
/-- only the place has moved -/
def P35 (N K : AM) (q : Nat) : Prop := gI K 3 5 = nI q ∧ (∀ c k, ¬ (c = 3 ∧ k = 5) → gI K c k = gI N c k) ∧ (∀ c k, gR K c k = gR N c k) ∧ ∀ c k, gL K c k = gL N c k
theorem P35.f3 {K : AM} {q : Nat} (h : P35 N K q) : F3 N K := ⟨h.2.2.1, fun c k a _ _ => h.2.1 c k (fun e => a e.1), fun c k _ _ => h.2.2.2 c k⟩
theorem P35.go {K : AM} {q q' : Nat} (h : P35 N K q) : P35 N (sI K 3 5 (nI q')) q' := ⟨rfl, fun c k e => by rw [gI_sI, if_neg e]; exact h.2.1 c k e, h.2.2.1, h.2.2.2⟩
theorem skip_ok (hz : z ≤ 1600) (hB : ∀ i, i < z → B i < 256) (hT : TV B z N) {p : Nat} (hp : p ≤ 1600) (h5 : gI N 3 5 = nI p) : ∃ N', f_Tokens_skipBlanks N = some ((), N') ∧ P35 N N' (tkS (byt B z) p) := by
  obtain ⟨r1, r2, r3⟩ := rl_ok (P := blk) (B := B) hz rfl p
  unfold f_Tokens_skipBlanks tkS
  generalize hn : rl blk (byt B z) p = n at *
  have key : ∃ o, f_Tokens_skipBlanks_l2 fu 0 N = some o ∧ P35 N o.2 (p + n) := by
    refine for_inv (fun y (s : Int32 × AM) => f_Tokens_skipBlanks_l2 y s.1 s.2) (fun j s => s.1 = nI j ∧ P35 N s.2 (p + j)) n _ (fun j s y hj hI => ?_) (fun s y hI => ?_) n 0 (0, N) fu (by omega) (by rw [fu_eq]; omega) ⟨rfl, h5, fun _ _ _ => rfl, fun _ _ => rfl, fun _ _ => rfl⟩
    · obtain ⟨v, K⟩ := s
      obtain ⟨rfl, i1⟩ := hI
      simp only at i1
      left
      have hTK := hT.f3 i1.f3
      have hb := r1 j hj
      have hle := byt_le hB (p + j)
      refine ⟨(nI (j + 1), sI K 3 5 (nI (p + (j + 1)))), ⟨rfl, i1.go⟩, ?_⟩
      show f_Tokens_skipBlanks_b2 (f_Tokens_skipBlanks_l2 y) (nI j) K = _
      unfold f_Tokens_skipBlanks_b2 f_Tokens_skipBlanks_j35
      rw [nI_lit 1600, if_neg (nI_ge (by omega) (by decide)), i1.1, tape_at hz hB hTK (by omega), bnd_s, i1.1, tape_at hz hB hTK (by omega), bnd_s, i1.1, wI_eq, nI_1, nI_1, Nat.add_assoc]
      rcases blk_iff.mp hb with e | e
      · rw [if_pos ((atI_eq _ (by omega)).1.mpr e)]
      · rw [if_neg (fun q => by have := (atI_eq _ (by omega)).1.mp q; omega), if_pos ((atI_eq _ (by omega)).2.1.mpr e)]
    · obtain ⟨v, K⟩ := s
      obtain ⟨rfl, i1⟩ := hI
      simp only at i1
      have hTK := hT.f3 i1.f3
      have hle := byt_le hB (p + n)
      refine ⟨((), K), ?_, i1⟩
      show f_Tokens_skipBlanks_b2 (f_Tokens_skipBlanks_l2 y) (nI n) K = _
      unfold f_Tokens_skipBlanks_b2
      by_cases h16 : 1600 ≤ n
      · rw [nI_lit 1600, if_pos (nI_le h16 (by omega))]
      · have hno : ¬ (byt B z (p + n) = 32 ∨ byt B z (p + n) = 10) := fun e => by rw [blk_iff.mpr e] at r2; cases r2
        rw [nI_lit 1600, if_neg (nI_ge (by omega) (by decide)), i1.1, tape_at hz hB hTK (by omega), bnd_s, i1.1, tape_at hz hB hTK (by omega), bnd_s, if_neg (fun q => hno (Or.inl ((atI_eq _ (by omega)).1.mp q))), if_neg (fun q => hno (Or.inr ((atI_eq _ (by omega)).2.1.mp q)))]
  obtain ⟨⟨u, N'⟩, k1, k2⟩ := key
  exact ⟨N', by rw [k1, bnd_s], k2⟩
theorem l_lit (n : Nat) : (OfNat.ofNat n : Int64) = lN n := rfl
theorem atI_n {c : Nat} (h : c < 256) : atI c = nI c := if_neg (by omega)
theorem wordL (hz : z ≤ 1600) (hB : ∀ i, i < z → B i < 256) (hT : TV B z N) {q : Nat} (hq : q ≤ 1600) (h5 : gI N 3 5 = nI q) (a b : Int32) : ∃ N', f_Tokens_takeWord_l11 a b fu 0 0 N = some (lN (w32 (fun t => byt B z (q + t)) (rl ltr (byt B z) q)), N') ∧ P35 N N' (q + rl ltr (byt B z) q) := by
  obtain ⟨r1, r2, r3⟩ := rl_ok (P := ltr) (B := B) hz rfl q
  generalize hn : rl ltr (byt B z) q = n at *
  have key : ∃ o, f_Tokens_takeWord_l11 a b fu 0 0 N = some o ∧ (o.1 = lN (w32 (fun t => byt B z (q + t)) n) ∧ P35 N o.2 (q + n)) := by
    refine for_inv (fun y (s : Int64 × Int32 × AM) => f_Tokens_takeWord_l11 a b y s.1 s.2.1 s.2.2) (fun j s => s.1 = lN (w32 (fun t => byt B z (q + t)) j) ∧ s.2.1 = nI j ∧ P35 N s.2.2 (q + j)) n _ (fun j s y hj hI => ?_) (fun s y hI => ?_) n 0 (0, 0, N) fu (by omega) (by rw [fu_eq]; omega) ⟨rfl, rfl, h5, fun _ _ _ => rfl, fun _ _ => rfl, fun _ _ => rfl⟩
    · obtain ⟨v, v2, K⟩ := s
      obtain ⟨rfl, rfl, i1⟩ := hI
      simp only at i1
      left
      have hTK := hT.f3 i1.f3
      have hb := r1 j hj
      have hle := byt_le hB (q + j)
      have hl := ltr_iff.mp hb
      refine ⟨(lN (w32 (fun t => byt B z (q + t)) (j + 1)), nI (j + 1), sI K 3 5 (nI (q + (j + 1)))), ⟨rfl, rfl, i1.go⟩, ?_⟩
      show f_Tokens_takeWord_b11 (f_Tokens_takeWord_l11 a b y) a b (lN (w32 (fun t => byt B z (q + t)) j)) (nI j) K = _
      unfold f_Tokens_takeWord_b11
      rw [nI_lit 1600, if_neg (nI_ge (by omega) (by decide)), i1.1, tape_at hz hB hTK (by omega), bnd_s, let_ok hle, bnd_s, if_pos hb, if_neg (by decide), i1.1, tape_at hz hB hTK (by omega), bnd_s, wI_eq, i1.1, nI_1, nI_1, atI_n (by omega), nI_lit 97, pk_sub (by omega), nI_1, nI_l (by omega), l_lit 32, lN_mul, lN_add, Nat.add_assoc, w32_s, show byt B z (q + j) - 97 + 1 = byt B z (q + j) - 96 by omega]
    · obtain ⟨v, v2, K⟩ := s
      obtain ⟨rfl, rfl, i1⟩ := hI
      simp only at i1
      have hTK := hT.f3 i1.f3
      have hle := byt_le hB (q + n)
      refine ⟨(lN (w32 (fun t => byt B z (q + t)) n), K), ?_, rfl, i1⟩
      show f_Tokens_takeWord_b11 (f_Tokens_takeWord_l11 a b y) a b (lN (w32 (fun t => byt B z (q + t)) n)) (nI n) K = _
      unfold f_Tokens_takeWord_b11
      by_cases h16 : 1600 ≤ n
      · rw [nI_lit 1600, if_pos (nI_le h16 (by omega))]
      · rw [nI_lit 1600, if_neg (nI_ge (by omega) (by decide)), i1.1, tape_at hz hB hTK (by omega), bnd_s, let_ok hle, bnd_s, r2, if_pos (by decide)]
  obtain ⟨⟨v, N'⟩, k1, k2, k3⟩ := key
  simp only at k2
  exact ⟨N', by rw [k1, k2], k3⟩
theorem numL (hz : z ≤ 1600) (hB : ∀ i, i < z → B i < 256) (hT : TV B z N) {q : Nat} (hq : q ≤ 1600) (h5 : gI N 3 5 = nI q) (a b : Int32) : ∃ N', f_Tokens_takeNumber_l11 a b fu 0 0 N = some (lN (nbk (fun t => byt B z (q + t)) (rl dgt (byt B z) q)), N') ∧ P35 N N' (q + rl dgt (byt B z) q) := by
  obtain ⟨r1, r2, r3⟩ := rl_ok (P := dgt) (B := B) hz rfl q
  generalize hn : rl dgt (byt B z) q = n at *
  have key : ∃ o, f_Tokens_takeNumber_l11 a b fu 0 0 N = some o ∧ (o.1 = lN (nbk (fun t => byt B z (q + t)) n) ∧ P35 N o.2 (q + n)) := by
    refine for_inv (fun y (s : Int64 × Int32 × AM) => f_Tokens_takeNumber_l11 a b y s.1 s.2.1 s.2.2) (fun j s => s.1 = lN (nbk (fun t => byt B z (q + t)) j) ∧ s.2.1 = nI j ∧ P35 N s.2.2 (q + j)) n _ (fun j s y hj hI => ?_) (fun s y hI => ?_) n 0 (0, 0, N) fu (by omega) (by rw [fu_eq]; omega) ⟨rfl, rfl, h5, fun _ _ _ => rfl, fun _ _ => rfl, fun _ _ => rfl⟩
    · obtain ⟨v, v2, K⟩ := s
      obtain ⟨rfl, rfl, i1⟩ := hI
      simp only at i1
      left
      have hTK := hT.f3 i1.f3
      have hb := r1 j hj
      have hle := byt_le hB (q + j)
      have hl := dgt_iff.mp hb
      refine ⟨(lN (nbk (fun t => byt B z (q + t)) (j + 1)), nI (j + 1), sI K 3 5 (nI (q + (j + 1)))), ⟨rfl, rfl, i1.go⟩, ?_⟩
      show f_Tokens_takeNumber_b11 (f_Tokens_takeNumber_l11 a b y) a b (lN (nbk (fun t => byt B z (q + t)) j)) (nI j) K = _
      unfold f_Tokens_takeNumber_b11
      rw [nI_lit 1600, if_neg (nI_ge (by omega) (by decide)), i1.1, tape_at hz hB hTK (by omega), bnd_s, dig_ok hle, bnd_s, if_pos hb, if_neg (by decide), i1.1, tape_at hz hB hTK (by omega), bnd_s, wI_eq, i1.1, nI_1, nI_1, atI_n (by omega), nI_lit 48, pk_sub (by omega), nI_l (by omega), l_lit 10, lN_mul, lN_add, Nat.add_assoc, nbk_s]
    · obtain ⟨v, v2, K⟩ := s
      obtain ⟨rfl, rfl, i1⟩ := hI
      simp only at i1
      have hTK := hT.f3 i1.f3
      have hle := byt_le hB (q + n)
      refine ⟨(lN (nbk (fun t => byt B z (q + t)) n), K), ?_, rfl, i1⟩
      show f_Tokens_takeNumber_b11 (f_Tokens_takeNumber_l11 a b y) a b (lN (nbk (fun t => byt B z (q + t)) n)) (nI n) K = _
      unfold f_Tokens_takeNumber_b11
      by_cases h16 : 1600 ≤ n
      · rw [nI_lit 1600, if_pos (nI_le h16 (by omega))]
      · rw [nI_lit 1600, if_neg (nI_ge (by omega) (by decide)), i1.1, tape_at hz hB hTK (by omega), bnd_s, dig_ok hle, bnd_s, r2, if_pos (by decide)]
  obtain ⟨⟨v, N'⟩, k1, k2, k3⟩ := key
  simp only at k2
  exact ⟨N', by rw [k1, k2], k3⟩
theorem chr_all : ∀ n, n < 144 → (((sbyt0.getD n 0) &&& 255).toUInt32 % 65536).toInt32 = nI (WB n) := by decide +kernel
theorem xald0 {β : Type} {n : Nat} (h : n < 144) {κ : Int32 → Option β} : xald 0 (nI n) κ = κ (sbyt0.getD n 0) := by
  unfold xald
  rw [nI_clamp (by omega), if_neg, List.getD_cons_zero]
  · rintro (q | q)
    · exact nI_pos (by omega) q
    · have : ([144, 11] : List Nat).getD 0 0 = 144 := rfl
      omega
theorem charAt_ok {n : Nat} (h : n < 144) (M : AM) : f_Str_charAt 0 (nI n) M = some (nI (WB n), M) := by
  have e : f_Str_isLatin1 0 M = some (1, M) := by
    unfold f_Str_isLatin1
    rw [if_neg (by decide), if_pos rfl]
  unfold f_Str_charAt f_Lat_charAt f_Str_checkIndex f_Pre_checkIndex
  rw [e, bnd_s, if_neg (by decide), if_neg (nI_pos (by omega)), if_pos (show nI n < Int32.ofNat (([144, 11] : List Nat).getD 0 0) from nI_lt (b := 144) h (by decide)), bnd_s, bnd_s, xald0 h, bnd_s, chr_all n h]
/-- all eight letters of a word are the same -/
def pdb (f : Nat → Nat) (n k : Nat) : Nat → Bool
  | 0 => true
  | i + 1 => pdb f n k i && decide ((if i < n then f i else 32) = WB (k * 8 + i))
theorem pdb_s (f : Nat → Nat) (n k i : Nat) : pdb f n k (i + 1) = (pdb f n k i && decide ((if i < n then f i else 32) = WB (k * 8 + i))) := rfl
theorem pdb_no {f : Nat → Nat} {n k i : Nat} (h : pdb f n k i = false) : ∀ d, pdb f n k (i + d) = false := by
  intro d
  induction d with
  | zero => exact h
  | succ d ih => rw [← Nat.add_assoc, pdb_s, ih]; rfl
theorem pdb_iff {f : Nat → Nat} {n k : Nat} : ∀ m, pdb f n k m = true ↔ ∀ i, i < m → (if i < n then f i else 32) = WB (k * 8 + i) := by
  intro m
  induction m with
  | zero => exact ⟨fun _ i hi => by omega, fun _ => rfl⟩
  | succ m ih =>
    rw [pdb_s, Bool.and_eq_true, ih, decide_eq_true_iff]
    constructor
    · rintro ⟨h1, h2⟩ i hi
      by_cases e : i = m
      · rw [e]; exact h2
      · exact h1 i (by omega)
    · intro h; exact ⟨fun i hi => h i (by omega), h m (by omega)⟩
theorem WB_le : ∀ n, n < 144 → WB n < 256 := by decide +kernel
theorem kindL14 (hz : z ≤ 1600) (hB : ∀ i, i < z → B i < 256) (hT : TV B z N) {q n k : Nat} (hq : q ≤ 1600) (hn : n ≤ 8) (hk : k < 18) (hf : ∀ i, i < n → ltr (byt B z (q + i)) = true) : f_Tokens_kindOfWord_l14 (nI q) (nI n) (nI k) fu 1 0 N = some (if pdb (fun t => byt B z (q + t)) n k 8 = true then 1 else 0, N) := by
  have key : ∃ o, f_Tokens_kindOfWord_l14 (nI q) (nI n) (nI k) fu 1 0 N = some o ∧ o = (if pdb (fun t => byt B z (q + t)) n k 8 = true then 1 else 0, N) := by
    refine for_inv (fun y (s : Int32 × Int32 × AM) => f_Tokens_kindOfWord_l14 (nI q) (nI n) (nI k) y s.1 s.2.1 s.2.2) (fun i s => s = (if pdb (fun t => byt B z (q + t)) n k i = true then 1 else 0, nI i, N)) 8 _ (fun i s y hi hI => ?_) (fun s y hI => ?_) 8 0 (1, 0, N) fu (by omega) (by rw [fu_eq]; omega) rfl
    · subst hI
      have hwb := WB_le (k * 8 + i) (by omega)
      have hin : ∀ c, c < 256 → f_Tokens_kindOfWord_j45 (f_Tokens_kindOfWord_l14 (nI q) (nI n) (nI k) y) (nI q) (nI n) (nI k) (nI i) (nI c) N = f_Tokens_kindOfWord_l14 (nI q) (nI n) (nI k) y (if c = WB (k * 8 + i) then 1 else 0) (nI (i + 1)) N := by
        intro c hc
        unfold f_Tokens_kindOfWord_j45
        rw [nI_lit 8, pk_mul, nI_add, charAt_ok (by omega), bnd_s, nI_1]
        by_cases e : c = WB (k * 8 + i)
        · rw [if_pos (by rw [e]), if_pos e]
        · rw [if_neg (fun x => e ((nI_eq (by omega) (by omega)).mp x).symm), if_neg e]
      have hb : ∀ v, f_Tokens_kindOfWord_l14 (nI q) (nI n) (nI k) (y + 1) v (nI i) N = if v = 0 then some (v, N) else f_Tokens_kindOfWord_l14 (nI q) (nI n) (nI k) y (if (if i < n then byt B z (q + i) else 32) = WB (k * 8 + i) then 1 else 0) (nI (i + 1)) N := by
        intro v
        show f_Tokens_kindOfWord_b14 (f_Tokens_kindOfWord_l14 (nI q) (nI n) (nI k) y) (nI q) (nI n) (nI k) v (nI i) N = _
        unfold f_Tokens_kindOfWord_b14
        rw [nI_lit 8, if_neg (nI_ge hi (by decide))]
        by_cases hv : v = 0
        · rw [if_pos hv, if_pos hv]
        · rw [if_neg hv, if_neg hv]
          by_cases hin2 : i < n
          · have := ltr_iff.mp (hf i hin2)
            rw [if_neg (nI_ge hin2 (by omega)), nI_add, tape_at hz hB hT (by omega), bnd_s, atI_n (by omega), hin _ (by omega), if_pos hin2]
          · rw [if_pos (nI_le (by omega) (by omega)), nI_lit 32, hin 32 (by decide), if_neg hin2]
      by_cases hmk : pdb (fun t => byt B z (q + t)) n k i = true
      · left
        refine ⟨_, rfl, ?_⟩
        show f_Tokens_kindOfWord_l14 (nI q) (nI n) (nI k) (y + 1) (if pdb (fun t => byt B z (q + t)) n k i = true then 1 else 0) (nI i) N = f_Tokens_kindOfWord_l14 (nI q) (nI n) (nI k) y (if pdb (fun t => byt B z (q + t)) n k (i + 1) = true then 1 else 0) (nI (i + 1)) N
        rw [hb, if_pos hmk, if_neg (by decide), pdb_s, hmk]
        by_cases e : (if i < n then byt B z (q + i) else 32) = WB (k * 8 + i)
        · rw [if_pos e]; simp [e]
        · rw [if_neg e]; simp [e]
      · right
        have hf0 : pdb (fun t => byt B z (q + t)) n k i = false := by simpa using hmk
        have hf2 := pdb_no hf0 (8 - i)
        rw [show i + (8 - i) = 8 by omega] at hf2
        refine ⟨(0, N), ?_, by rw [hf2]; rfl⟩
        show f_Tokens_kindOfWord_l14 (nI q) (nI n) (nI k) (y + 1) (if pdb (fun t => byt B z (q + t)) n k i = true then 1 else 0) (nI i) N = _
        rw [hb, if_neg hmk, if_pos rfl]
    · subst hI
      refine ⟨_, ?_, rfl⟩
      show f_Tokens_kindOfWord_b14 (f_Tokens_kindOfWord_l14 (nI q) (nI n) (nI k) y) (nI q) (nI n) (nI k) _ (nI 8) N = _
      unfold f_Tokens_kindOfWord_b14
      rw [nI_lit 8, if_pos (nI_le (Nat.le_refl _) (by decide))]
  obtain ⟨o, k1, rfl⟩ := key
  exact k1
theorem kindOfWord_ok (hz : z ≤ 1600) (hB : ∀ i, i < z → B i < 256) (hT : TV B z N) {q n : Nat} (hq : q ≤ 1600) (hn : n ≤ 8) (hf : ∀ i, i < n → ltr (byt B z (q + i)) = true) : f_Tokens_kindOfWord (nI q) (nI n) N = some (nI (kwd (wdk (fun t => byt B z (q + t)) n)), N) := by
  have key : ∃ o, f_Tokens_kindOfWord_l2 (nI q) (nI n) fu (nI 0) N = some o ∧ (bn2 (some o) (fun _ M2 => some (2, M2)) = some (nI (kwd (wdk (fun t => byt B z (q + t)) n)), N)) := by
    refine for_inv (fun y (s : Int32 × AM) => f_Tokens_kindOfWord_l2 (nI q) (nI n) y s.1 s.2) (fun k s => s = (nI k, N) ∧ ∀ j, j < k → ¬ wdk (fun t => byt B z (q + t)) n = KW j) 18 _ (fun k s y hk hI => ?_) (fun s y hI => ?_) 18 0 (nI 0, N) fu (by omega) (by rw [fu_eq]; omega) ⟨rfl, fun j hj => by omega⟩
    · obtain ⟨rfl, i1⟩ := hI
      have hb : f_Tokens_kindOfWord_l2 (nI q) (nI n) (y + 1) (nI k) N = if pdb (fun t => byt B z (q + t)) n k 8 = true then some (.inr (128 + nI k, N)) else f_Tokens_kindOfWord_l2 (nI q) (nI n) y (nI (k + 1)) N := by
        show f_Tokens_kindOfWord_b2 (f_Tokens_kindOfWord_l2 (nI q) (nI n) y) (nI q) (nI n) (nI k) N = _
        unfold f_Tokens_kindOfWord_b2
        rw [nI_lit 18, if_neg (nI_ge hk (by decide)), kindL14 hz hB hT hq hn hk hf, bnd_s, nI_1]
        by_cases e : pdb (fun t => byt B z (q + t)) n k 8 = true
        · rw [if_pos e, if_neg (by decide), if_pos e]
        · rw [if_neg e, if_pos rfl, if_neg e]
      have hpi := (pdb_iff (f := fun t => byt B z (q + t)) (n := n) (k := k) 8).trans (pad_iff hn hf hk)
      by_cases e : wdk (fun t => byt B z (q + t)) n = KW k
      · right
        refine ⟨.inr (128 + nI k, N), ?_, ?_⟩
        · show f_Tokens_kindOfWord_l2 (nI q) (nI n) (y + 1) (nI k) N = _
          rw [hb, if_pos (hpi.mpr e)]
        · rw [bn2_r, (kwd_iff hk).mpr e, nI_lit 128, nI_add]
      · left
        refine ⟨(nI (k + 1), N), ⟨rfl, fun j hj => ?_⟩, ?_⟩
        · by_cases ej : j = k
          · rw [ej]; exact e
          · exact i1 j (by omega)
        · show f_Tokens_kindOfWord_l2 (nI q) (nI n) (y + 1) (nI k) N = _
          rw [hb, if_neg (fun x => e (hpi.mp x))]
    · obtain ⟨rfl, i1⟩ := hI
      refine ⟨.inl ((), N), ?_, ?_⟩
      · show f_Tokens_kindOfWord_b2 (f_Tokens_kindOfWord_l2 (nI q) (nI n) y) (nI q) (nI n) (nI 18) N = _
        unfold f_Tokens_kindOfWord_b2
        rw [nI_lit 18, if_pos (nI_le (Nat.le_refl _) (by decide))]
      · have : kwd (wdk (fun t => byt B z (q + t)) n) = 2 := by
          rcases kwd_cases (wdk (fun t => byt B z (q + t)) n) with e | ⟨k, hk, e⟩
          · exact e
          · exact absurd ((kwd_iff hk).mp e) (i1 k hk)
        rw [bn2_l, this]
        rfl
  obtain ⟨o, k1, k2⟩ := key
  unfold f_Tokens_kindOfWord
  rw [nI_0] at k1
  rw [k1, k2]
end SCAN
theorem sg_all : ∀ c, c < 256 → (opI (ffs (fun j => decide (sbyt1.getD j 0 = (nI c).toInt8.toInt32)) 11 0) < 0 ↔ ¬ sgn c = true) := by decide +kernel
theorem xald1 {β : Type} {n : Nat} (h : n < 11) {κ : Int32 → Option β} : xald 1 (nI n) κ = κ (sbyt1.getD n 0) := by
  unfold xald
  rw [nI_clamp (by omega), if_neg]
  · rfl
  · rintro (q | q)
    · exact nI_pos (by omega) q
    · have : ([144, 11] : List Nat).getD 1 0 = 11 := rfl
      omega
theorem indexOf_ok {c : Nat} (hc : c < 256) (M : AM) : ∃ r, f_Str_indexOf1 1 (((nI c).toUInt32 % 65536).toInt32) M = some (r, M) ∧ (r < 0 ↔ ¬ sgn c = true) := by
  refine ⟨_, ?_, sg_all c hc⟩
  have e : f_Str_isLatin1 1 M = some (1, M) := by
    unfold f_Str_isLatin1
    rw [if_neg (by decide), if_pos rfl]
  have e2 : f_Str_length 1 M = some (11, M) := by
    unfold f_Str_length f_Str_coder
    rw [if_neg (by decide), bnd_s]
    rfl
  have e3 : ((nI c).toUInt32 % 65536).toInt32 = nI c := (sb_byte c hc).2.1
  have e4 : f_Lat_canEncode (nI c) M = some (1, M) := by
    unfold f_Lat_canEncode
    rw [if_neg (nI_pos (by omega)), if_neg (show ¬ (255 : Int32) < nI c from nI_nlt (a := 255) (by omega) (by decide))]
  have e5 : f_Lat_indexOfChar 1 (nI c) 0 11 M = some (opI (ffs (fun j => decide (sbyt1.getD j 0 = (nI c).toInt8.toInt32)) 11 0), M) := by
    unfold f_Lat_indexOfChar
    have := first_loop (M := M) (f_Lat_indexOfChar_l7 1 11 (nI c).toInt8.toInt32) (fun j => decide (sbyt1.getD j 0 = (nI c).toInt8.toInt32)) 11 (by decide)
      (fun j y hj => by
        show f_Lat_indexOfChar_b7 (f_Lat_indexOfChar_l7 1 11 (nI c).toInt8.toInt32 y) 1 11 (nI c).toInt8.toInt32 (nI j) M = _
        unfold f_Lat_indexOfChar_b7
        rw [nI_lit 11, if_neg (nI_ge hj (by decide)), xald1 hj, nI_1]
        by_cases x : sbyt1.getD j 0 = (nI c).toInt8.toInt32
        · rw [if_pos x, if_pos (by simpa using x)]
        · rw [if_neg x, if_neg (by simpa using x)])
      (fun y => by
        show f_Lat_indexOfChar_b7 (f_Lat_indexOfChar_l7 1 11 (nI c).toInt8.toInt32 y) 1 11 (nI c).toInt8.toInt32 (nI 11) M = _
        unfold f_Lat_indexOfChar_b7
        rw [nI_lit 11, if_pos (nI_le (Nat.le_refl _) (by decide))])
    rw [nI_0] at this
    exact this
  unfold f_Str_indexOf1 f_Str_indexOf2 f_Lat_indexOf
  rw [e3, e, bnd_s, if_neg (by decide), e2, bnd_s, e4, bnd_s, if_neg (by decide)]
  rw [show (if (0 : Int32) < 0 then (0 : Int32) else 0) = 0 from rfl, show (if Int32.ofNat (([144, 11] : List Nat).getD 1 0) < (11 : Int32) then Int32.ofNat (([144, 11] : List Nat).getD 1 0) else (11 : Int32)) = 11 from by decide, if_pos (by decide), e5, bnd_s, bnd_s, bnd_s]
