/-! the text, cut into tokens -/
def byt (B : Nat → Nat) (z i : Nat) : Nat := if i < z then B i else 256
def ltr (c : Nat) : Bool := decide (97 ≤ c) && decide (c ≤ 122)
def dgt (c : Nat) : Bool := decide (48 ≤ c) && decide (c ≤ 57)
def blk (c : Nat) : Bool := decide (c = 32) || decide (c = 10)
def sgn (c : Nat) : Bool := decide (c = 59 ∨ c = 40 ∨ c = 41 ∨ c = 60 ∨ c = 62 ∨ c = 61 ∨ c = 43 ∨ c = 45 ∨ c = 42 ∨ c = 47 ∨ c = 37)
def rn (P : Nat → Bool) (f : Nat → Nat) : Nat → Nat → Nat
  | 0, _ => 0
  | k + 1, i => if P (f i) = true then rn P f k (i + 1) + 1 else 0
theorem rn_s (P : Nat → Bool) (f : Nat → Nat) (k i : Nat) : rn P f (k + 1) i = if P (f i) = true then rn P f k (i + 1) + 1 else 0 := rfl
theorem rn_ok {P : Nat → Bool} {f : Nat → Nat} {z : Nat} (hz : ∀ i, z ≤ i → P (f i) = false) : ∀ k i, z - i < k → (∀ j, j < rn P f k i → P (f (i + j)) = true) ∧ P (f (i + rn P f k i)) = false ∧ rn P f k i ≤ z - i := by
  intro k
  induction k with
  | zero => intro i h; omega
  | succ k ih =>
    intro i h
    rw [rn_s]
    by_cases hp : P (f i) = true
    · rw [if_pos hp]
      have hi : i < z := by
        rcases Nat.lt_or_ge i z with e | e
        · exact e
        · rw [hz i e] at hp; cases hp
      obtain ⟨h1, h2, h3⟩ := ih (i + 1) (by omega)
      refine ⟨fun j hj => ?_, ?_, by omega⟩
      · rcases Nat.eq_zero_or_pos j with e | e
        · rw [e]; exact hp
        · have := h1 (j - 1) (by omega)
          rw [show i + 1 + (j - 1) = i + j by omega] at this
          exact this
      · rw [show i + (rn P f k (i + 1) + 1) = i + 1 + rn P f k (i + 1) by omega]; exact h2
    · rw [if_neg hp]
      exact ⟨fun j hj => by omega, by simpa using hp, Nat.zero_le _⟩
def rl (P : Nat → Bool) (f : Nat → Nat) (i : Nat) : Nat := rn P f 1601 i
theorem rl_ok {P : Nat → Bool} {B : Nat → Nat} {z : Nat} (hz : z ≤ 1600) (hP : P 256 = false) (i : Nat) : (∀ j, j < rl P (byt B z) i → P (byt B z (i + j)) = true) ∧ P (byt B z (i + rl P (byt B z) i)) = false ∧ rl P (byt B z) i ≤ z - i :=
  rn_ok (fun j hj => by unfold byt; rw [if_neg (by omega)]; exact hP) 1601 i (by omega)
/-- codes of words: letters in 256, in 32; numbers in 10 -/
def wdk (g : Nat → Nat) : Nat → Nat
  | 0 => 0
  | n + 1 => wdk g n * 256 + g n
theorem wdk_s (g : Nat → Nat) (n : Nat) : wdk g (n + 1) = wdk g n * 256 + g n := rfl
def w32 (g : Nat → Nat) : Nat → Nat
  | 0 => 0
  | n + 1 => w32 g n * 32 + (g n - 96)
theorem w32_s (g : Nat → Nat) (n : Nat) : w32 g (n + 1) = w32 g n * 32 + (g n - 96) := rfl
def nbk (g : Nat → Nat) : Nat → Nat
  | 0 => 0
  | n + 1 => nbk g n * 10 + (g n - 48)
theorem nbk_s (g : Nat → Nat) (n : Nat) : nbk g (n + 1) = nbk g n * 10 + (g n - 48) := rfl
theorem ltr_iff {c : Nat} : ltr c = true ↔ 97 ≤ c ∧ c ≤ 122 := by unfold ltr; simp
theorem dgt_iff {c : Nat} : dgt c = true ↔ 48 ≤ c ∧ c ≤ 57 := by unfold dgt; simp
theorem blk_iff {c : Nat} : blk c = true ↔ c = 32 ∨ c = 10 := by unfold blk; simp
theorem wdk_lt {g : Nat → Nat} : ∀ n, (∀ i, i < n → g i < 256) → wdk g n < 256 ^ n := by
  intro n
  induction n with
  | zero => intro _; show 0 < 1; decide
  | succ n ih =>
    intro h
    have h1 := ih (fun i hi => h i (by omega))
    have h2 := h n (by omega)
    rw [wdk_s, Nat.pow_succ]
    omega
theorem wdk_inj {f g : Nat → Nat} : ∀ n m, (∀ i, i < n → ltr (f i) = true) → (∀ i, i < m → ltr (g i) = true) → wdk f n = wdk g m → n = m ∧ ∀ i, i < n → f i = g i := by
  intro n
  induction n with
  | zero =>
    intro m _ hg e
    cases m with
    | zero => exact ⟨rfl, fun i hi => by omega⟩
    | succ m =>
      have := ltr_iff.mp (hg m (by omega))
      rw [wdk_s] at e
      have e0 : wdk f 0 = 0 := rfl
      omega
  | succ n ih =>
    intro m hf hg e
    have h1 := ltr_iff.mp (hf n (by omega))
    cases m with
    | zero =>
      rw [wdk_s] at e
      have e0 : wdk g 0 = 0 := rfl
      omega
    | succ m =>
      have h2 := ltr_iff.mp (hg m (by omega))
      rw [wdk_s, wdk_s] at e
      obtain ⟨a, b⟩ := ih m (fun i hi => hf i (by omega)) (fun i hi => hg i (by omega)) (by omega)
      subst a
      refine ⟨rfl, fun i hi => ?_⟩
      by_cases ei : i = n
      · rw [ei]; omega
      · exact b i (by omega)
theorem w32_inj {f g : Nat → Nat} : ∀ n m, (∀ i, i < n → ltr (f i) = true) → (∀ i, i < m → ltr (g i) = true) → w32 f n = w32 g m → n = m ∧ ∀ i, i < n → f i = g i := by
  intro n
  induction n with
  | zero =>
    intro m _ hg e
    cases m with
    | zero => exact ⟨rfl, fun i hi => by omega⟩
    | succ m =>
      have := ltr_iff.mp (hg m (by omega))
      rw [w32_s] at e
      have e0 : w32 f 0 = 0 := rfl
      omega
  | succ n ih =>
    intro m hf hg e
    have h1 := ltr_iff.mp (hf n (by omega))
    cases m with
    | zero =>
      rw [w32_s] at e
      have e0 : w32 g 0 = 0 := rfl
      omega
    | succ m =>
      have h2 := ltr_iff.mp (hg m (by omega))
      rw [w32_s, w32_s] at e
      obtain ⟨a, b⟩ := ih m (fun i hi => hf i (by omega)) (fun i hi => hg i (by omega)) (by omega)
      subst a
      refine ⟨rfl, fun i hi => ?_⟩
      by_cases ei : i = n
      · rw [ei]; omega
      · exact b i (by omega)
theorem wdk_cg {f g : Nat → Nat} : ∀ n, (∀ i, i < n → f i = g i) → wdk f n = wdk g n := by
  intro n
  induction n with
  | zero => intro _; rfl
  | succ n ih => intro h; rw [wdk_s, wdk_s, ih (fun i hi => h i (by omega)), h n (by omega)]
theorem w32_cg {f g : Nat → Nat} : ∀ n, (∀ i, i < n → f i = g i) → w32 f n = w32 g n := by
  intro n
  induction n with
  | zero => intro _; rfl
  | succ n ih => intro h; rw [w32_s, w32_s, ih (fun i hi => h i (by omega)), h n (by omega)]
/-- from one code to the other -/
def c32f : Nat → Nat → Nat
  | 0, _ => 0
  | k + 1, w => if w = 0 then 0 else c32f k (w / 256) * 32 + (w % 256 - 96)
theorem c32f_s (k w : Nat) : c32f (k + 1) w = if w = 0 then 0 else c32f k (w / 256) * 32 + (w % 256 - 96) := rfl
def c32 (w : Nat) : Nat := c32f 9 w
theorem c32f_ok {f : Nat → Nat} : ∀ n k, n < k → (∀ i, i < n → ltr (f i) = true) → c32f k (wdk f n) = w32 f n := by
  intro n
  induction n with
  | zero =>
    intro k hk _
    obtain ⟨j, rfl⟩ : ∃ j, k = j + 1 := ⟨k - 1, by omega⟩
    rw [c32f_s, if_pos (show wdk f 0 = 0 from rfl)]
    rfl
  | succ n ih =>
    intro k hk h
    obtain ⟨j, rfl⟩ : ∃ j, k = j + 1 := ⟨k - 1, by omega⟩
    have h1 := ltr_iff.mp (h n (by omega))
    rw [c32f_s, wdk_s, if_neg (by omega), w32_s, show (wdk f n * 256 + f n) / 256 = wdk f n by omega, show (wdk f n * 256 + f n) % 256 = f n by omega, ih j (by omega) (fun i hi => h i (by omega))]
/-- a word of at most eight letters -/
def vwd (w : Nat) : Prop := ∃ f n, n ≤ 8 ∧ (∀ i, i < n → ltr (f i) = true) ∧ w = wdk f n
theorem c32_eq {a b : Nat} (ha : vwd a) (hb : vwd b) : c32 a = c32 b ↔ a = b := by
  obtain ⟨f, n, h1, h2, rfl⟩ := ha
  obtain ⟨g, m, k1, k2, rfl⟩ := hb
  constructor
  · intro e
    unfold c32 at e
    rw [c32f_ok n 9 (by omega) h2, c32f_ok m 9 (by omega) k2] at e
    obtain ⟨rfl, e2⟩ := w32_inj n m h2 k2 e
    exact wdk_cg n e2
  · intro e; rw [e]
theorem w32_lt {g : Nat → Nat} : ∀ n, (∀ i, i < n → ltr (g i) = true) → w32 g n < 32 ^ n := by
  intro n
  induction n with
  | zero => intro _; show 0 < 1; decide
  | succ n ih =>
    intro h
    have h1 := ih (fun i hi => h i (by omega))
    have h2 := ltr_iff.mp (h n (by omega))
    rw [w32_s, Nat.pow_succ]
    omega
theorem vwd_lt {w : Nat} (h : vwd w) : w < 2 ^ 63 ∧ c32 w < 2 ^ 63 := by
  obtain ⟨f, n, h1, h2, rfl⟩ := h
  refine ⟨?_, ?_⟩
  · have e : ∀ n, n ≤ 8 → (∀ i, i < n → ltr (f i) = true) → wdk f n < 2 ^ 63 := by
      intro n hn hl
      cases n with
      | zero => show 0 < _; decide
      | succ m =>
        have a1 := wdk_lt (g := f) m (fun i hi => by have := ltr_iff.mp (hl i (by omega)); omega)
        rcases Nat.lt_or_ge m 7 with e7 | e7
        · have : 256 ^ m ≤ 256 ^ 6 := Nat.pow_le_pow_right (by decide) (by omega)
          have a2 := ltr_iff.mp (hl m (by omega))
          rw [wdk_s]
          omega
        · have em : m = 7 := by omega
          subst em
          have a2 := ltr_iff.mp (hl 7 (by omega))
          have a3 := ltr_iff.mp (hl 0 (by omega))
          have top : ∀ k, wdk f (k + 1) < 123 * 256 ^ k ∨ k ≥ 8 := by
            intro k
            induction k with
            | zero => left; show 0 * 256 + f 0 < 123 * 256 ^ 0; omega
            | succ k ih =>
              rcases Nat.lt_or_ge k 7 with ek | ek
              · have i1 := ih.resolve_right (by omega)
                have i2 := ltr_iff.mp (hl (k + 1) (by omega))
                left
                rw [wdk_s, Nat.pow_succ]
                omega
              · right; omega
          have := (top 7).resolve_right (by omega)
          omega
    exact e n h1 h2
  · unfold c32
    rw [c32f_ok n 9 (by omega) h2]
    have := w32_lt (g := f) n h2
    have h3 : 32 ^ n ≤ 32 ^ 8 := Nat.pow_le_pow_right (by decide) h1
    omega
/-- the eighteen words -/
def KWL : List Nat := [1818324336, 1668248164, 1852143732, 1685418859, 465557353332, 444352132211, 1685217655, 500186639987, 427071599731, 28530, 6385252, 7237492, 7104884, 1852137842, 427071530099, 121450625394034, 512736130163, 474214787188]
def KW (k : Nat) : Nat := KWL.getD k 0
def kwd (w : Nat) : Nat := match ffs (fun k => decide (w = KW k)) 18 0 with
  | none => 2
  | some k => 128 + k
/-- the byte n of the row of words, the length of word k -/
def WBL : List Nat := stxt0.toList.map (fun c => c.toNat)
def WB (n : Nat) : Nat := WBL.getD n 0
def KL (k : Nat) : Nat := ([4, 4, 4, 4, 5, 5, 4, 5, 5, 2, 3, 3, 3, 4, 5, 6, 5, 5] : List Nat).getD k 0
theorem WB_ok : ∀ k, k < 18 → KL k ≤ 8 ∧ 1 ≤ KL k ∧ (∀ i, i < 8 → (i < KL k → ltr (WB (k * 8 + i)) = true) ∧ (KL k ≤ i → WB (k * 8 + i) = 32)) ∧ wdk (fun i => WB (k * 8 + i)) (KL k) = KW k := by decide +kernel
theorem KW_ne : ∀ k, k < 18 → ∀ j, j < 18 → KW k = KW j → k = j := by decide +kernel
theorem pad_iff {f : Nat → Nat} {n k : Nat} (hn : n ≤ 8) (hf : ∀ i, i < n → ltr (f i) = true) (hk : k < 18) : (∀ i, i < 8 → (if i < n then f i else 32) = WB (k * 8 + i)) ↔ wdk f n = KW k := by
  obtain ⟨k1, k2, k3, k4⟩ := WB_ok k hk
  constructor
  · intro h
    have e : n = KL k := by
      rcases Nat.lt_trichotomy n (KL k) with e | e | e
      · have h1 := h n (by omega)
        rw [if_neg (by omega)] at h1
        have h2 := (k3 n (by omega)).1 e
        rw [← h1] at h2
        cases h2
      · exact e
      · have h1 := h (KL k) (by omega)
        rw [if_pos e, (k3 (KL k) (by omega)).2 (Nat.le_refl _)] at h1
        have h2 := hf (KL k) e
        rw [h1] at h2
        cases h2
    rw [← k4, ← e]
    exact wdk_cg n (fun i hi => by have := h i (by omega); rw [if_pos hi] at this; exact this)
  · intro h i hi
    rw [← k4] at h
    obtain ⟨e1, e2⟩ := wdk_inj n (KL k) hf (fun j hj => (k3 j (by omega)).1 hj) h
    by_cases hin : i < n
    · rw [if_pos hin]; exact e2 i hin
    · rw [if_neg hin]; exact ((k3 i hi).2 (by omega)).symm
theorem ffs_at {P : Nat → Bool} : ∀ r k m, ffs P r k = some m → k ≤ m ∧ m < k + r ∧ P m = true := by
  intro r
  induction r with
  | zero => intro k m h; cases h
  | succ r ih =>
    intro k m h
    rw [ffs_s] at h
    by_cases hp : P k = true
    · rw [if_pos hp] at h; cases h; exact ⟨Nat.le_refl _, by omega, hp⟩
    · rw [if_neg hp] at h
      obtain ⟨a, b, c⟩ := ih (k + 1) m h
      exact ⟨by omega, by omega, c⟩
theorem ffs_no {P : Nat → Bool} : ∀ r k, ffs P r k = none → ∀ m, k ≤ m → m < k + r → P m = false := by
  intro r
  induction r with
  | zero => intro k _ m h1 h2; omega
  | succ r ih =>
    intro k h m h1 h2
    rw [ffs_s] at h
    by_cases hp : P k = true
    · rw [if_pos hp] at h; cases h
    · rw [if_neg hp] at h
      by_cases e : m = k
      · rw [e]; simpa using hp
      · exact ih (k + 1) h m (by omega) (by omega)
theorem ffs_ext {P Q : Nat → Bool} : ∀ r k, (∀ m, k ≤ m → m < k + r → P m = Q m) → ffs P r k = ffs Q r k := by
  intro r
  induction r with
  | zero => intro k _; rfl
  | succ r ih =>
    intro k h
    rw [ffs_s, ffs_s, h k (Nat.le_refl _) (by omega), ih (k + 1) (fun m h1 h2 => h m (by omega) (by omega))]
/-- a kind is that of a kept word just where the code is that word's -/
theorem kwd_iff {w k : Nat} (hk : k < 18) : kwd w = 128 + k ↔ w = KW k := by
  unfold kwd
  cases hf : ffs (fun k => decide (w = KW k)) 18 0 with
  | none =>
    have := ffs_no 18 0 hf k (by omega) (by omega)
    have h2 : ¬ w = KW k := by simpa using this
    constructor
    · intro e
      have e2 : 2 = 128 + k := e
      omega
    · intro e; exact absurd e h2
  | some m =>
    obtain ⟨-, a, b⟩ := ffs_at 18 0 m hf
    have b' : w = KW m := by simpa using b
    constructor
    · intro e
      have e2 : 128 + m = 128 + k := e
      rw [b', show m = k by omega]
    · intro e
      show 128 + m = 128 + k
      rw [KW_ne m (by omega) k hk (by rw [← b', ← e])]
theorem kwd_cases (w : Nat) : kwd w = 2 ∨ ∃ k, k < 18 ∧ kwd w = 128 + k := by
  unfold kwd
  cases hf : ffs (fun k => decide (w = KW k)) 18 0 with
  | none => exact Or.inl rfl
  | some m => obtain ⟨-, a, -⟩ := ffs_at 18 0 m hf; exact Or.inr ⟨m, by omega, rfl⟩
/-! the tokens of a text f -/
def tkS (f : Nat → Nat) (p : Nat) : Nat := p + rl blk f p
def tkW (f : Nat → Nat) (q : Nat) : Nat := wdk (fun t => f (q + t)) (rl ltr f q)
def tkD (f : Nat → Nat) (q : Nat) : Nat := nbk (fun t => f (q + t)) (rl dgt f q)
def tkQ (f : Nat → Nat) (q : Nat) : Nat := if f q = 256 then 0 else if ltr (f q) = true then (if 8 < rl ltr f q then 1 else kwd (tkW f q)) else if dgt (f q) = true then (if 4 < rl dgt f q ∨ ltr (f (q + rl dgt f q)) = true then 1 else 3) else if sgn (f q) = true then f q else 1
def tkN (f : Nat → Nat) (q : Nat) : Nat := if tkQ f q = 1 then q else if f q = 256 then q else if ltr (f q) = true then q + rl ltr f q else if dgt (f q) = true then q + rl dgt f q else q + 1
def stm (f : Nat → Nat) : Nat → Nat
  | 0 => 0
  | i + 1 => tkN f (tkS f (stm f i))
theorem stm_s (f : Nat → Nat) (i : Nat) : stm f (i + 1) = tkN f (tkS f (stm f i)) := rfl
def plc (f : Nat → Nat) (i : Nat) : Nat := tkS f (stm f i)
def knd (f : Nat → Nat) (i : Nat) : Nat := tkQ f (plc f i)
