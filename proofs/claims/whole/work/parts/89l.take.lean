/-! a token of the class, and all of them -/
section TK
variable {B : Nat → Nat} {z : Nat}
theorem byt_256 (hB : ∀ i, i < z → B i < 256) (q : Nat) : byt B z q = 256 ↔ z ≤ q := by
  unfold byt
  by_cases h : q < z
  · rw [if_pos h]
    have := hB q h
    constructor
    · intro e; omega
    · intro e; omega
  · rw [if_neg h]
    exact ⟨fun _ => by omega, fun _ => rfl⟩
theorem rl_0 {P : Nat → Bool} {f : Nat → Nat} {i : Nat} (h : P (f i) = false) : rl P f i = 0 := by
  unfold rl
  rw [rn_s, if_neg (by rw [h]; decide)]
theorem rl_pos {P : Nat → Bool} {f : Nat → Nat} {i : Nat} (h : P (f i) = true) : 1 ≤ rl P f i := by
  unfold rl
  rw [rn_s, if_pos h]
  omega
theorem tkS_le (hz : z ≤ 1600) {p : Nat} (hp : p ≤ z) : tkS (byt B z) p ≤ z := by
  have := (rl_ok (P := blk) (B := B) hz rfl p).2.2
  unfold tkS
  omega
theorem tkS_nb (hz : z ≤ 1600) (p : Nat) : blk (byt B z (tkS (byt B z) p)) = false := (rl_ok (P := blk) (B := B) hz rfl p).2.1
theorem tkS_id (hz : z ≤ 1600) (p : Nat) : tkS (byt B z) (tkS (byt B z) p) = tkS (byt B z) p := by
  have h := tkS_nb (B := B) hz p
  generalize tkS (byt B z) p = q at *
  unfold tkS
  rw [rl_0 h]
  rfl
theorem tkN_le (hz : z ≤ 1600) (hB : ∀ i, i < z → B i < 256) {q : Nat} (hq : q ≤ z) : tkN (byt B z) q ≤ z := by
  unfold tkN
  split
  · exact hq
  · split
    · exact hq
    · rename_i h1 h2
      have hlt : q < z := by
        rcases Nat.lt_or_ge q z with e | e
        · exact e
        · exact absurd ((byt_256 hB q).mpr e) h2
      split
      · have := (rl_ok (P := ltr) (B := B) hz rfl q).2.2; omega
      · split
        · have := (rl_ok (P := dgt) (B := B) hz rfl q).2.2; omega
        · omega
theorem stm_le (hz : z ≤ 1600) (hB : ∀ i, i < z → B i < 256) : ∀ i, stm (byt B z) i ≤ z := by
  intro i
  induction i with
  | zero => exact Nat.zero_le _
  | succ i ih => rw [stm_s]; exact tkN_le hz hB (tkS_le hz ih)
theorem plc_le (hz : z ≤ 1600) (hB : ∀ i, i < z → B i < 256) (i : Nat) : plc (byt B z) i ≤ z := tkS_le hz (stm_le hz hB i)
theorem sgn_ge {c : Nat} (h : sgn c = true) : 37 ≤ c ∧ c ≤ 62 := by
  unfold sgn at h
  rw [decide_eq_true_iff] at h
  omega
theorem kwd_ge (w : Nat) : 2 ≤ kwd w := by
  rcases kwd_cases w with e | ⟨k, -, e⟩ <;> omega
theorem tkQ_go {f : Nat → Nat} {q : Nat} (h : 2 ≤ tkQ f q) : q + 1 ≤ tkN f q := by
  have h1 : tkQ f q ≠ 1 := by omega
  unfold tkN
  rw [if_neg h1]
  unfold tkQ at h
  by_cases a : f q = 256
  · rw [if_pos a] at h; omega
  · rw [if_neg a]
    by_cases b : ltr (f q) = true
    · rw [if_pos b]; have := rl_pos (P := ltr) b; omega
    · rw [if_neg b]
      by_cases d : dgt (f q) = true
      · rw [if_pos d]; have := rl_pos (P := dgt) d; omega
      · rw [if_neg d]; omega
theorem tkQ_stay {f : Nat → Nat} {q : Nat} (h : tkQ f q ≤ 1) : tkN f q = q := by
  unfold tkN
  by_cases h1 : tkQ f q = 1
  · rw [if_pos h1]
  · rw [if_neg h1]
    have h0 : tkQ f q = 0 := by omega
    unfold tkQ at h0
    by_cases a : f q = 256
    · rw [if_pos a]
    · rw [if_neg a] at h0
      exfalso
      by_cases b : ltr (f q) = true
      · rw [if_pos b] at h0
        split at h0
        · omega
        · have := kwd_ge (tkW f q); omega
      · rw [if_neg b] at h0
        by_cases d : dgt (f q) = true
        · rw [if_pos d] at h0
          split at h0 <;> omega
        · rw [if_neg d] at h0
          split at h0
          · have := sgn_ge (by assumption); omega
          · omega
theorem stm_ge (hz : z ≤ 1600) : ∀ i, (∀ j, j < i → 2 ≤ knd (byt B z) j) → i ≤ stm (byt B z) i := by
  intro i
  induction i with
  | zero => intro _; exact Nat.zero_le _
  | succ i ih =>
    intro h
    have h1 := ih (fun j hj => h j (by omega))
    have h2 := tkQ_go (h i (by omega))
    have h3 : stm (byt B z) i ≤ tkS (byt B z) (stm (byt B z) i) := by unfold tkS; omega
    rw [stm_s]
    have h2' : tkS (byt B z) (stm (byt B z) i) + 1 ≤ tkN (byt B z) (tkS (byt B z) (stm (byt B z) i)) := h2
    omega
/-- the first token that is the end, or none -/
def nE (f : Nat → Nat) : Nat := match fum (fun i => decide (2 ≤ knd f i)) 1602 with
  | some m => m
  | none => 0
theorem fum_bel {S : Nat → Bool} {m : Nat} : ∀ n, fum S n = some m → (∀ k, k < m → S k = true) ∧ ¬ S m = true := by
  intro n
  induction n with
  | zero => intro h; cases h
  | succ n ih =>
    intro h
    cases hf : fum S n with
    | none =>
      rw [fum_n hf] at h
      by_cases hs : S n = true
      · rw [if_pos hs] at h; cases h
      · rw [if_neg hs] at h; cases h
        exact ⟨(fum_none _).mp hf, hs⟩
    | some q =>
      rw [fum_s hf] at h
      cases h
      exact ih hf
theorem nE_ok (hz : z ≤ 1600) (hB : ∀ i, i < z → B i < 256) : (∀ j, j < nE (byt B z) → 2 ≤ knd (byt B z) j) ∧ knd (byt B z) (nE (byt B z)) ≤ 1 ∧ nE (byt B z) ≤ 1600 := by
  have h0 : ∃ m, fum (fun i => decide (2 ≤ knd (byt B z) i)) 1602 = some m := by
    cases hf : fum (fun i => decide (2 ≤ knd (byt B z) i)) 1602 with
    | some m => exact ⟨m, rfl⟩
    | none =>
      have h1 := (fum_none 1602).mp hf
      have h2 := stm_ge (B := B) hz 1602 (fun j hj => by simpa using h1 j hj)
      have h3 := stm_le hz hB 1602
      omega
  obtain ⟨m, hm⟩ := h0
  have e : nE (byt B z) = m := by unfold nE; rw [hm]
  rw [e]
  obtain ⟨a, b⟩ := fum_bel 1602 hm
  have a' : ∀ j, j < m → 2 ≤ knd (byt B z) j := fun j hj => by simpa using a j hj
  have b' : ¬ 2 ≤ knd (byt B z) m := by simpa using b
  have h2 := stm_ge (B := B) hz m a'
  have h3 := stm_le hz hB m
  exact ⟨a', by omega, by omega⟩
theorem plc_stay (hz : z ≤ 1600) {i : Nat} (h : knd (byt B z) i ≤ 1) : plc (byt B z) (i + 1) = plc (byt B z) i := by
  unfold plc
  rw [stm_s]
  have h' : tkQ (byt B z) (tkS (byt B z) (stm (byt B z) i)) ≤ 1 := h
  rw [tkQ_stay h', tkS_id hz]
theorem plc_end (hz : z ≤ 1600) (hB : ∀ i, i < z → B i < 256) : ∀ d, plc (byt B z) (nE (byt B z) + d) = plc (byt B z) (nE (byt B z)) := by
  intro d
  induction d with
  | zero => rw [Nat.add_zero]
  | succ d ih =>
    have h1 : knd (byt B z) (nE (byt B z) + d) ≤ 1 := by
      unfold knd
      rw [ih]
      exact (nE_ok hz hB).2.1
    rw [← Nat.add_assoc, plc_stay hz h1, ih]
theorem plc_min (hz : z ≤ 1600) (hB : ∀ i, i < z → B i < 256) (i : Nat) : plc (byt B z) (min i (nE (byt B z))) = plc (byt B z) i := by
  rcases Nat.le_total i (nE (byt B z)) with e | e
  · rw [Nat.min_eq_left e]
  · rw [Nat.min_eq_right e]
    have := plc_end hz hB (i - nE (byt B z))
    rw [show nE (byt B z) + (i - nE (byt B z)) = i by omega] at this
    exact this.symm
/-- a token is taken -/
def TKP (f : Nat → Nat) (N K : AM) (i q : Nat) : Prop := (∀ c k, gR K c k = gR N c k) ∧ (∀ c k, ¬ (c = 3 ∧ k = 5) → gI K c k = gI N c k) ∧ (∀ c k, ¬ (c = 6 ∧ k = i) → gL K c k = gL N c k) ∧ (tkQ f q ≠ 1 → gI K 3 5 = nI (tkN f q)) ∧ (tkQ f q = 3 → gL K 6 i = lN (tkD f q)) ∧ (tkQ f q = 2 → gL K 6 i = lN (c32 (tkW f q)))
theorem take_ok {N : AM} (hz : z ≤ 1600) (hB : ∀ i, i < z → B i < 256) (hT : TV B z N) {q i : Nat} (hq : q ≤ z) (hi : i ≤ 1600) (h5 : gI N 3 5 = nI q) : ∃ K, f_Tokens_take (nI i) N = some (nI (tkQ (byt B z) q), K) ∧ TKP (byt B z) N K i q := by
  have hle := byt_le hB q
  unfold f_Tokens_take
  rw [h5, tape_at hz hB hT (by omega), bnd_s, let_ok hle, bnd_s, dig_ok hle, bnd_s]
  by_cases a : byt B z q = 256
  · have e : tkQ (byt B z) q = 0 := by unfold tkQ; rw [if_pos a]
    refine ⟨N, ?_, fun _ _ => rfl, fun _ _ _ => rfl, fun _ _ _ => rfl, fun _ => ?_, fun h => by omega, fun h => by omega⟩
    · rw [if_neg (fun x => (atI_eq _ (by omega)).2.2.mp x a), e]; rfl
    · rw [h5, tkQ_stay (by omega)]
  · rw [if_pos ((atI_eq _ (by omega)).2.2.mpr a)]
    by_cases b : ltr (byt B z q) = true
    · rw [if_pos b, if_neg (by decide)]
      have hQ : tkQ (byt B z) q = if 8 < rl ltr (byt B z) q then 1 else kwd (tkW (byt B z) q) := by unfold tkQ; rw [if_neg a, if_pos b]
      obtain ⟨r1, r2, r3⟩ := rl_ok (P := ltr) (B := B) hz rfl q
      obtain ⟨K, k1, k2⟩ := wordL hz hB hT (show q ≤ 1600 by omega) h5 (nI i) (nI q)
      have hN : tkQ (byt B z) q ≠ 1 → tkN (byt B z) q = q + rl ltr (byt B z) q := fun x => by unfold tkN; rw [if_neg x, if_neg a, if_pos b]
      have hTK : TV B z (sL K 6 i (lN (w32 (fun t => byt B z (q + t)) (rl ltr (byt B z) q)))) := hT.f3 (k2.f3.sL (Or.inr rfl))
      refine ⟨sL K 6 i (lN (w32 (fun t => byt B z (q + t)) (rl ltr (byt B z) q))), ?_, k2.2.2.1, k2.2.1, fun c k x => ?_, fun x => ?_, fun x => ?_, fun x => ?_⟩
      · unfold f_Tokens_takeWord
        rw [h5, k1, bnd_s, last_nI (by omega) (by decide)]
        have e35 : gI (sL K 6 i (lN (w32 (fun t => byt B z (q + t)) (rl ltr (byt B z) q)))) 3 5 = nI (q + rl ltr (byt B z) q) := k2.1
        rw [e35, pk_sub (by omega), show q + rl ltr (byt B z) q - q = rl ltr (byt B z) q by omega, hQ]
        by_cases e : 8 < rl ltr (byt B z) q
        · rw [nI_lit 8, if_neg (nI_ge e (by omega)), bnd_s, if_pos e]
          rfl
        · rw [nI_lit 8, if_pos (nI_le (by omega) (by decide)), kindOfWord_ok hz hB hTK (by omega) (by omega) r1, bnd_s, bnd_s, if_neg e]
          rfl
      · rw [gL_sL, if_neg x]; exact k2.2.2.2 c k
      · rw [hN x]; exact k2.1
      · rw [hQ] at x
        split at x
        · omega
        · rcases kwd_cases (tkW (byt B z) q) with e | ⟨k, -, e⟩ <;> omega
      · rw [hQ] at x
        split at x
        · omega
        · rw [gL_sL, if_pos ⟨rfl, rfl⟩]
          unfold c32 tkW
          rw [c32f_ok _ 9 (by omega) r1]
    · rw [if_neg b, if_pos rfl]
      by_cases d : dgt (byt B z q) = true
      · rw [if_pos d, if_neg (by decide)]
        have hQ : tkQ (byt B z) q = if 4 < rl dgt (byt B z) q ∨ ltr (byt B z (q + rl dgt (byt B z) q)) = true then 1 else 3 := by unfold tkQ; rw [if_neg a, if_neg b, if_pos d]
        obtain ⟨r1, r2, r3⟩ := rl_ok (P := dgt) (B := B) hz rfl q
        obtain ⟨K, k1, k2⟩ := numL hz hB hT (show q ≤ 1600 by omega) h5 (nI i) (nI q)
        have hN : tkQ (byt B z) q ≠ 1 → tkN (byt B z) q = q + rl dgt (byt B z) q := fun x => by unfold tkN; rw [if_neg x, if_neg a, if_neg b, if_pos d]
        have hTK : TV B z (sL K 6 i (lN (nbk (fun t => byt B z (q + t)) (rl dgt (byt B z) q)))) := hT.f3 (k2.f3.sL (Or.inr rfl))
        refine ⟨sL K 6 i (lN (nbk (fun t => byt B z (q + t)) (rl dgt (byt B z) q))), ?_, k2.2.2.1, k2.2.1, fun c k x => ?_, fun x => ?_, fun x => ?_, fun x => ?_⟩
        · unfold f_Tokens_takeNumber f_Tokens_takeNumber_j102
          rw [h5, k1, bnd_s, last_nI (by omega) (by decide)]
          have e35 : gI (sL K 6 i (lN (nbk (fun t => byt B z (q + t)) (rl dgt (byt B z) q)))) 3 5 = nI (q + rl dgt (byt B z) q) := k2.1
          have hle2 := byt_le hB (q + rl dgt (byt B z) q)
          rw [e35, pk_sub (by omega), show q + rl dgt (byt B z) q - q = rl dgt (byt B z) q by omega, hQ, tape_at hz hB hTK (by omega), bnd_s, let_ok hle2, bnd_s]
          by_cases e : 4 < rl dgt (byt B z) q
          · rw [nI_lit 4, if_pos (nI_lt e (by omega)), bnd_s, if_pos (Or.inl e)]
            rfl
          · rw [nI_lit 4, if_neg (nI_nlt (by omega) (by decide))]
            by_cases e2 : ltr (byt B z (q + rl dgt (byt B z) q)) = true
            · rw [if_pos e2, if_neg (by decide), bnd_s, if_pos (Or.inr e2)]
              rfl
            · rw [if_neg e2, if_pos rfl, bnd_s, if_neg (fun x => x.elim e e2)]
              rfl
        · rw [gL_sL, if_neg x]; exact k2.2.2.2 c k
        · rw [hN x]; exact k2.1
        · rw [gL_sL, if_pos ⟨rfl, rfl⟩]; rfl
        · rw [hQ] at x
          split at x <;> omega
      · rw [if_neg d, if_pos rfl, wI_eq, h5, nI_1, atI_n (by omega)]
        obtain ⟨r, x1, x2⟩ := indexOf_ok (c := byt B z q) (by omega) (sI N 3 5 (nI (q + 1)))
        rw [x1, bnd_s]
        have hQ : tkQ (byt B z) q = if sgn (byt B z q) = true then byt B z q else 1 := by unfold tkQ; rw [if_neg a, if_neg b, if_neg d]
        refine ⟨sI N 3 5 (nI (q + 1)), ?_, fun _ _ => rfl, fun c k x => by rw [gI_sI, if_neg x], fun _ _ _ => rfl, fun x => ?_, fun x => ?_, fun x => ?_⟩
        · rw [hQ]
          by_cases e : sgn (byt B z q) = true
          · rw [if_neg (fun y => x2.mp y e), if_pos e]
          · rw [if_pos (x2.mpr e), if_neg e]; rfl
        · rw [gI_sI, if_pos ⟨rfl, rfl⟩]
          unfold tkN
          rw [if_neg x, if_neg a, if_neg b, if_neg d]
        · rw [hQ] at x
          split at x
          · have := sgn_ge (by assumption); omega
          · omega
        · rw [hQ] at x
          split at x
          · have := sgn_ge (by assumption); omega
          · omega
/-- the class's rows of tokens -/
def CTA (f : Nat → Nat) (N : AM) (m : Nat) : Prop := ∀ j, j < m → gI N 4 j = nI (knd f j) ∧ gI N 5 j = nI (plc f j) ∧ (knd f j = 3 → gL N 6 j = lN (tkD f (plc f j))) ∧ (knd f j = 2 → gL N 6 j = lN (c32 (tkW f (plc f j))))
/-- the class stands at token i -/
def CT (f : Nat → Nat) (N : AM) (i : Nat) : Prop := (gI N 3 3 = nI (nE f + 1) ∧ CTA f N (nE f + 1) ∧ gI N 3 4 = nI (min i (nE f))) ∧ gI N 3 6 = nI (knd f i) ∧ gI N 3 7 = nI (plc f i) ∧ (knd f i = 3 → gL N 3 8 = lN (tkD f (plc f i))) ∧ (knd f i = 2 → gL N 3 8 = lN (c32 (tkW f (plc f i))))
theorem knd_lt (hz : z ≤ 1600) (hB : ∀ i, i < z → B i < 256) (i : Nat) : knd (byt B z) i < 300 := by
  unfold knd tkQ
  split
  · omega
  · split
    · split
      · omega
      · rcases kwd_cases (tkW (byt B z) (plc (byt B z) i)) with e | ⟨k, hk, e⟩ <;> omega
    · split
      · split <;> omega
      · split
        · have := byt_le hB (plc (byt B z) i); omega
        · omega
theorem loadT {N : AM} (hz : z ≤ 1600) (hB : ∀ i, i < z → B i < 256) {i m : Nat} (hm : m = min i (nE (byt B z))) (h3 : gI N 3 3 = nI (nE (byt B z) + 1)) (hA : CTA (byt B z) N (nE (byt B z) + 1)) (h4 : gI N 3 4 + 1 = nI m) : ∃ K, f_Tokens_step N = some ((), K) ∧ CT (byt B z) K i ∧ F3 N K := by
  obtain ⟨n1, n2, n3⟩ := nE_ok hz hB
  have hmle : m ≤ nE (byt B z) := by omega
  have hpl := plc_min hz hB i
  rw [← hm] at hpl
  have hkn : knd (byt B z) m = knd (byt B z) i := by unfold knd; rw [hpl]
  obtain ⟨a1, a2, a3, a4⟩ := hA m (by omega)
  rw [hkn, hpl] at *
  unfold f_Tokens_step
  rw [h3, h4, if_neg (nI_ge (by omega) (by omega))]
  simp only [wI_eq, wL_eq]
  have g1 : ∀ w, gI (sI N 3 4 w) 3 4 = w := fun w => rfl
  have g2 : ∀ w x, gI (sI (sI N 3 4 w) 3 6 x) 3 4 = w := fun w x => rfl
  have g3 : ∀ w x y, gI (sI (sI (sI N 3 4 w) 3 6 x) 3 7 y) 3 4 = w := fun w x y => rfl
  rw [g1, ald_nI (by omega) (by decide), g2, ald_nI (by omega) (by decide), g3, lald_nI (by omega) (by decide)]
  have e4 : gI (sI N 3 4 (nI m)) 4 m = nI (knd (byt B z) i) := a1
  rw [e4]
  have e5 : gI (sI (sI N 3 4 (nI m)) 3 6 (nI (knd (byt B z) i))) 5 m = nI (plc (byt B z) i) := a2
  rw [e5]
  have e6 : gL (sI (sI (sI N 3 4 (nI m)) 3 6 (nI (knd (byt B z) i))) 3 7 (nI (plc (byt B z) i))) 6 m = gL N 6 m := rfl
  rw [e6]
  refine ⟨_, rfl, ⟨⟨h3, fun j hj => hA j hj, by rw [← hm]; rfl⟩, rfl, rfl, fun x => a3 x, fun x => a4 x⟩, (((F3.rfl'.sI (Or.inl rfl)).sI (Or.inl rfl)).sI (Or.inl rfl)).sL (Or.inl rfl)⟩
theorem step_ok {N : AM} (hz : z ≤ 1600) (hB : ∀ i, i < z → B i < 256) {i : Nat} (h : CT (byt B z) N i) : ∃ K, f_Tokens_step N = some ((), K) ∧ CT (byt B z) K (i + 1) ∧ F3 N K := by
  obtain ⟨n1, n2, n3⟩ := nE_ok hz hB
  obtain ⟨⟨c1, c2, c3⟩, c4, c5, c6, c7⟩ := id h
  rcases Nat.lt_or_ge i (nE (byt B z)) with e | e
  · exact loadT hz hB (m := i + 1) (by omega) c1 c2 (by rw [c3, nI_1, Nat.min_eq_left (by omega)])
  · refine ⟨N, ?_, ?_, F3.rfl'⟩
    · unfold f_Tokens_step
      rw [c1, c3, nI_1, if_pos (nI_le (by omega) (by omega))]
    · have hp : plc (byt B z) (i + 1) = plc (byt B z) i := by
        rw [← plc_min hz hB (i + 1), ← plc_min hz hB i, Nat.min_eq_right (by omega), Nat.min_eq_right e]
      have hk : knd (byt B z) (i + 1) = knd (byt B z) i := by unfold knd; rw [hp]
      unfold CT
      rw [hk, hp, Nat.min_eq_right (show nE (byt B z) ≤ i + 1 by omega)]
      rw [Nat.min_eq_right e] at c3
      exact ⟨⟨c1, c2, c3⟩, c4, c5, c6, c7⟩
theorem scan_ok {N : AM} (hz : z ≤ 1600) (hB : ∀ i, i < z → B i < 256) (hT : TV B z N) : ∃ K, f_Tokens_scan N = some ((), K) ∧ CT (byt B z) K 0 ∧ F3 N K := by
  obtain ⟨n1, n2, n3⟩ := nE_ok hz hB
  have sm0 : F3 N (sI (sI N 3 3 0) 3 5 0) := (F3.rfl'.sI (Or.inl rfl)).sI (Or.inl rfl)
  have key : ∃ o, f_Tokens_scan_l14 fu 2 0 (sI (sI N 3 3 0) 3 5 0) = some o ∧ (F3 N o.2 ∧ gI o.2 3 3 = nI (nE (byt B z) + 1) ∧ CTA (byt B z) o.2 (nE (byt B z) + 1)) := by
    refine for_inv (fun y (s : Int32 × Int32 × AM) => f_Tokens_scan_l14 y s.1 s.2.1 s.2.2) (fun i s => s.2.1 = nI i ∧ F3 N s.2.2 ∧ gI s.2.2 3 3 = nI i ∧ CTA (byt B z) s.2.2 i ∧ ((i ≤ nE (byt B z) ∧ ¬ s.1 = 0 ∧ ¬ s.1 = 1 ∧ gI s.2.2 3 5 = nI (stm (byt B z) i)) ∨ (i = nE (byt B z) + 1 ∧ (s.1 = 0 ∨ s.1 = 1)))) 1601 _ (fun i s y hi hI => ?_) (fun s y hI => ?_) 1601 0 (2, 0, sI (sI N 3 3 0) 3 5 0) fu (by omega) (by rw [fu_eq]; omega) ⟨rfl, sm0, rfl, fun j hj => by omega, Or.inl ⟨Nat.zero_le _, (show ¬ (2 : Int32) = 0 by decide), (show ¬ (2 : Int32) = 1 by decide), rfl⟩⟩
    · obtain ⟨v1, v2, K⟩ := s
      obtain ⟨rfl, i1, i2, i3, i4⟩ := hI
      simp only at i1 i2 i3 i4
      rcases i4 with ⟨j1, j2, j3, j4⟩ | ⟨j1, j2⟩
      · left
        have hTK := hT.f3 i1
        have hst := stm_le hz hB i
        obtain ⟨K1, s1, s2⟩ := skip_ok hz hB hTK (show stm (byt B z) i ≤ 1600 by omega) j4
        have hpl := plc_le hz hB i
        have s35 : gI K1 3 5 = nI (plc (byt B z) i) := s2.1
        have hT2 : TV B z (sL (sI K1 5 i (nI (plc (byt B z) i))) 6 i 0) := hTK.f3 ((s2.f3.sI (Or.inr (Or.inr rfl))).sL (Or.inr rfl))
        obtain ⟨K2, t1, t2, t3, t4, t5, t6, t7⟩ := take_ok hz hB hT2 hpl (show i ≤ 1600 by omega) (show gI (sL (sI K1 5 i (nI (plc (byt B z) i))) 6 i 0) 3 5 = nI (plc (byt B z) i) from s35)
        have hkl := knd_lt hz hB i
        have hfr : F3 N K2 := ⟨fun c k => (t2 c k).trans ((s2.2.2.1 c k).trans (i1.1 c k)), fun c k x1 x2 x3 => by
          rw [t3 c k (fun e => x1 e.1), gI_sL, gI_sI, if_neg (fun e => x3 e.1), s2.2.1 c k (fun e => x1 e.1)]; exact i1.2.1 c k x1 x2 x3, fun c k x1 x2 => by
          rw [t4 c k (fun e => x2 e.1), gL_sL, if_neg (fun e => x2 e.1), gL_sI, s2.2.2.2]; exact i1.2.2 c k x1 x2⟩
        refine ⟨(nI (knd (byt B z) i), nI (i + 1), sI (sI K2 4 i (nI (knd (byt B z) i))) 3 3 (nI (i + 1))), ⟨rfl, (hfr.sI (Or.inr (Or.inl rfl))).sI (Or.inl rfl), rfl, fun j hj => ?_, ?_⟩, ?_⟩
        · have x4 : gI (sI (sI K2 4 i (nI (knd (byt B z) i))) 3 3 (nI (i + 1))) 4 j = if j = i then nI (knd (byt B z) i) else gI K2 4 j := by
            rw [gI_sI, if_neg (by omega), gI_sI]
            by_cases e : j = i
            · rw [if_pos ⟨rfl, e⟩, if_pos e]
            · rw [if_neg (fun x => e x.2), if_neg e]
          have x5 : gI (sI (sI K2 4 i (nI (knd (byt B z) i))) 3 3 (nI (i + 1))) 5 j = gI K2 5 j := by
            rw [gI_sI, if_neg (by omega), gI_sI, if_neg (by omega)]
          have x5' : gI K2 5 j = if j = i then nI (plc (byt B z) i) else gI K1 5 j := by
            rw [t3 5 j (by omega), gI_sL, gI_sI]
            by_cases e : j = i
            · rw [if_pos ⟨rfl, e⟩, if_pos e]
            · rw [if_neg (fun x => e x.2), if_neg e]
          show gI (sI (sI K2 4 i (nI (knd (byt B z) i))) 3 3 (nI (i + 1))) 4 j = _ ∧ gI (sI (sI K2 4 i (nI (knd (byt B z) i))) 3 3 (nI (i + 1))) 5 j = _ ∧ (_ → gL K2 6 j = _) ∧ (_ → gL K2 6 j = _)
          rw [x4, x5, x5']
          by_cases e : j = i
          · rw [if_pos e, if_pos e, e]
            exact ⟨rfl, rfl, fun x => t6 x, fun x => t7 x⟩
          · have y4 : gI K2 4 j = gI K 4 j := by rw [t3 4 j (by omega), gI_sL, gI_sI, if_neg (by omega), s2.2.1 4 j (by omega)]
            have y6 : gL K2 6 j = gL K 6 j := by rw [t4 6 j (fun x => e x.2), gL_sL, if_neg (fun x => e x.2), gL_sI, s2.2.2.2]
            rw [if_neg e, if_neg e, y4, s2.2.1 5 j (by omega), y6]
            exact i3 j (by omega)
        · rcases Nat.lt_or_ge (knd (byt B z) i) 2 with e | e
          · right
            have ei : i = nE (byt B z) := by
              rcases Nat.lt_or_ge i (nE (byt B z)) with x | x
              · have := n1 i x; omega
              · omega
            refine ⟨by omega, ?_⟩
            show nI (knd (byt B z) i) = 0 ∨ nI (knd (byt B z) i) = 1
            rcases (show knd (byt B z) i = 0 ∨ knd (byt B z) i = 1 by omega) with x | x
            · left; rw [x]; rfl
            · right; rw [x]; rfl
          · left
            have ei : i < nE (byt B z) := by
              rcases Nat.lt_or_ge i (nE (byt B z)) with x | x
              · exact x
              · have : i = nE (byt B z) := by omega
                rw [this] at e; omega
            refine ⟨by omega, fun x => ?_, fun x => ?_, ?_⟩
            · have := (nI_eq (b := 0) (by omega) (by decide)).mp x; omega
            · have := (nI_eq (b := 1) (by omega) (by decide)).mp x; omega
            · show gI (sI (sI K2 4 i (nI (knd (byt B z) i))) 3 3 (nI (i + 1))) 3 5 = _
              rw [gI_sI, if_neg (by omega), gI_sI, if_neg (by omega)]
              exact t5 (by unfold knd at e; omega)
        · show f_Tokens_scan_b14 (f_Tokens_scan_l14 y) v1 (nI i) K = _
          unfold f_Tokens_scan_b14
          rw [nI_lit 1600, if_neg (nI_nlt (by omega) (by decide)), if_neg j2, if_neg j3, s1, bnd_s, s35, ast_nI (by omega) (by decide), last_nI (by omega) (by decide), t1, bnd_s, ast_nI (by omega) (by decide), wI_eq, nI_1]
          rfl
      · right
        refine ⟨((), K), ?_, i1, by rw [i2, j1], by rw [← j1]; exact i3⟩
        show f_Tokens_scan_b14 (f_Tokens_scan_l14 y) v1 (nI i) K = _
        unfold f_Tokens_scan_b14
        rw [nI_lit 1600, if_neg (nI_nlt (by omega) (by decide))]
        rcases j2 with j2 | j2
        · rw [if_pos j2]
        · rw [if_neg (by rw [j2]; decide), if_pos j2]
    · obtain ⟨v1, v2, K⟩ := s
      obtain ⟨rfl, i1, i2, i3, i4⟩ := hI
      simp only at i1 i2 i3 i4
      have j1 : nE (byt B z) + 1 = 1601 := by
        rcases i4 with ⟨x, -⟩ | ⟨x, -⟩ <;> omega
      refine ⟨((), K), ?_, i1, by rw [i2, j1], by rw [j1]; exact i3⟩
      show f_Tokens_scan_b14 (f_Tokens_scan_l14 y) v1 (nI 1601) K = _
      unfold f_Tokens_scan_b14
      rw [nI_lit 1600, if_pos (nI_lt (by omega) (by decide))]
  obtain ⟨⟨u, K⟩, k1, k2, k3, k4⟩ := key
  simp only at k2 k3 k4
  obtain ⟨K2, l1, l2, l3⟩ := loadT (N := sI K 3 4 (-1)) hz hB (i := 0) (m := 0) (by omega) k3 k4 (by rw [gI_sI, if_pos ⟨rfl, rfl⟩]; decide)
  refine ⟨K2, ?_, l2, (k2.sI (Or.inl rfl)).trans l3⟩
  unfold f_Tokens_scan
  simp only [wI_eq]
  rw [k1, bnd_s, l1, bnd_s]
end TK
