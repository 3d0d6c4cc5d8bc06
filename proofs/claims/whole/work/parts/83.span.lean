/-! what some cords span -/
theorem xr4 (a b c d : Nat) : (a ^^^ b) ^^^ (c ^^^ d) = (a ^^^ c) ^^^ (b ^^^ d) := by
  refine Nat.eq_of_testBit_eq fun j => ?_
  simp only [Nat.testBit_xor]
  cases a.testBit j <;> cases b.testBit j <;> cases c.testBit j <;> cases d.testBit j <;> rfl
theorem xrs (a b : Nat) : (a ^^^ b) ^^^ b = a := by rw [Nat.xor_assoc, Nat.xor_self, Nat.xor_zero]
theorem xrt (a b : Nat) : a ^^^ (a ^^^ b) = b := by rw [← Nat.xor_assoc, Nat.xor_self, Nat.zero_xor]
theorem xt_lin (tn : Nat → Nat) (a b : Nat) : ∀ n, xt tn n (a ^^^ b) = xt tn n a ^^^ xt tn n b := by
  intro n
  induction n with
  | zero => show 0 = 0 ^^^ 0; rw [Nat.xor_zero]
  | succ n ih =>
    rw [xt_s, xt_s, xt_s, ih, xr4 (xt tn n a), Nat.testBit_xor]
    congr 1
    cases a.testBit n <;> cases b.testBit n <;> simp
theorem xt_cg {tn : Nat → Nat} {a b : Nat} : ∀ n, (∀ j, j < n → a.testBit j = b.testBit j) → xt tn n a = xt tn n b := by
  intro n
  induction n with
  | zero => intro _; rfl
  | succ n ih => intro h; rw [xt_s, xt_s, ih (fun j hj => h j (by omega)), h n (by omega)]
theorem xt_two {tn : Nat → Nat} {c : Nat} : ∀ n, c < n → xt tn n (2 ^ c) = tn c := by
  intro n
  induction n with
  | zero => intro h; omega
  | succ n ih =>
    intro h
    rw [xt_s, Nat.testBit_two_pow]
    by_cases hc : c = n
    · subst hc
      rw [xt_cg (b := 0) c (fun j hj => by rw [Nat.testBit_two_pow, Nat.zero_testBit]; simp; omega), xt_0]
      simp
    · rw [ih (by omega)]
      simp [hc]
theorem xt_mod (tn : Nat → Nat) (n s : Nat) : xt tn n (s % 2 ^ n) = xt tn n s := xt_cg n (fun j hj => by rw [Nat.testBit_mod_two_pow]; simp [hj])
def spb (tn : Nat → Nat) (F : Nat) : Nat → Nat → Bool
  | 0, v => decide (v = 0)
  | k + 1, v => spb tn F k v || (F.testBit k && spb tn F k (v ^^^ tn k))
theorem spb_s (tn : Nat → Nat) (F k v : Nat) : spb tn F (k + 1) v = (spb tn F k v || (F.testBit k && spb tn F k (v ^^^ tn k))) := rfl
theorem spb_iff {tn : Nat → Nat} {F : Nat} : ∀ n v, spb tn F n v = true ↔ ∃ s, s &&& F = s ∧ xt tn n s = v := by
  intro n
  induction n with
  | zero =>
    intro v
    show decide (v = 0) = true ↔ _
    rw [decide_eq_true_iff]
    constructor
    · rintro rfl; exact ⟨0, Nat.zero_and _, rfl⟩
    · rintro ⟨s, _, h⟩; exact h.symm
  | succ n ih =>
    intro v
    rw [spb_s, Bool.or_eq_true, Bool.and_eq_true, ih, ih]
    constructor
    · rintro (⟨s, h1, h2⟩ | ⟨hF, s, h1, h2⟩)
      · refine ⟨s % 2 ^ n, (and_sub _ _).mpr (fun j hj => ?_), ?_⟩
        · rw [Nat.testBit_mod_two_pow] at hj
          simp at hj
          exact (and_sub _ _).mp h1 j hj.2
        · rw [xt_s, xt_mod, h2, Nat.testBit_mod_two_pow]
          simp
      · refine ⟨(s % 2 ^ n) ^^^ 2 ^ n, (and_sub _ _).mpr (fun j hj => ?_), ?_⟩
        · by_cases hjn : j = n
          · rw [hjn]; exact hF
          · rw [Nat.testBit_xor, Nat.testBit_mod_two_pow, Nat.testBit_two_pow] at hj
            have e : decide (n = j) = false := by simpa using fun e => hjn e.symm
            rw [e] at hj
            simp at hj
            exact (and_sub _ _).mp h1 j hj.2
        · rw [xt_lin, xt_two (n + 1) (by omega), xt_s, xt_mod, h2, Nat.testBit_mod_two_pow]
          simp [xrs]
    · rintro ⟨s, h1, h2⟩
      rw [xt_s] at h2
      by_cases hb : s.testBit n = true
      · right
        rw [if_pos hb] at h2
        exact ⟨(and_sub _ _).mp h1 n hb, s, h1, by rw [← h2, xrs]⟩
      · left
        rw [if_neg hb, Nat.xor_zero] at h2
        exact ⟨s, h1, h2⟩
theorem spb_0 (tn : Nat → Nat) (F n : Nat) : spb tn F n 0 = true := (spb_iff n 0).mpr ⟨0, Nat.zero_and _, xt_0 tn n⟩
theorem and_xor' {a b F : Nat} (h1 : a &&& F = a) (h2 : b &&& F = b) : (a ^^^ b) &&& F = a ^^^ b := by
  rw [and_sub] at h1 h2 ⊢
  intro j hj
  rw [Nat.testBit_xor] at hj
  cases ha : a.testBit j with
  | true => exact h1 j ha
  | false =>
    cases hb : b.testBit j with
    | true => exact h2 j hb
    | false => rw [ha, hb] at hj; cases hj
theorem spb_x {tn : Nat → Nat} {F n v w : Nat} (h1 : spb tn F n v = true) (h2 : spb tn F n w = true) : spb tn F n (v ^^^ w) = true := by
  obtain ⟨a, a1, a2⟩ := (spb_iff n v).mp h1
  obtain ⟨b, b1, b2⟩ := (spb_iff n w).mp h2
  exact (spb_iff n _).mpr ⟨a ^^^ b, and_xor' a1 b1, by rw [xt_lin, a2, b2]⟩
/-- one cord more -/
theorem spb_more {tn : Nat → Nat} {F n c v : Nat} (hc : c < n) (hF : F.testBit c = false) : spb tn (F ^^^ 2 ^ c) n v = (spb tn F n v || spb tn F n (v ^^^ tn c)) := by
  have hbit : ∀ j, (F ^^^ 2 ^ c).testBit j = (F.testBit j || decide (c = j)) := fun j => by
    rw [Nat.testBit_xor, Nat.testBit_two_pow]
    by_cases e : c = j
    · subst e; rw [hF]; simp
    · simp [e]
  rw [Bool.eq_iff_iff, Bool.or_eq_true, spb_iff, spb_iff, spb_iff]
  constructor
  · rintro ⟨s, h1, h2⟩
    rw [and_sub] at h1
    by_cases hs : s.testBit c = true
    · right
      refine ⟨s ^^^ 2 ^ c, (and_sub _ _).mpr (fun j hj => ?_), by rw [xt_lin, xt_two n hc, h2]⟩
      rw [Nat.testBit_xor, Nat.testBit_two_pow] at hj
      by_cases e : c = j
      · subst e; rw [hs] at hj; simp at hj
      · simp [e] at hj
        have := h1 j hj
        rw [hbit] at this
        simp [e] at this
        exact this
    · left
      refine ⟨s, (and_sub _ _).mpr (fun j hj => ?_), h2⟩
      have := h1 j hj
      rw [hbit] at this
      by_cases e : c = j
      · subst e; exact absurd hj hs
      · simp [e] at this; exact this
  · rintro (⟨s, h1, h2⟩ | ⟨s, h1, h2⟩)
    · rw [and_sub] at h1
      exact ⟨s, (and_sub _ _).mpr (fun j hj => by rw [hbit, h1 j hj]; rfl), h2⟩
    · rw [and_sub] at h1
      refine ⟨s ^^^ 2 ^ c, (and_sub _ _).mpr (fun j hj => ?_), by rw [xt_lin, xt_two n hc, h2, xrs]⟩
      rw [hbit]
      rw [Nat.testBit_xor, Nat.testBit_two_pow] at hj
      by_cases e : c = j
      · simp [e]
      · simp [e] at hj
        rw [h1 j hj]; rfl
/-! counting -/
theorem cnt_out {P : Nat → Bool} {m0 : Nat} : ∀ m, (m0 < m → P m0 = true → cnt P m = cnt (fun k => P k && decide (k ≠ m0)) m + 1) ∧ (m ≤ m0 → cnt P m = cnt (fun k => P k && decide (k ≠ m0)) m) := by
  intro m
  induction m with
  | zero => exact ⟨fun h => by omega, fun _ => rfl⟩
  | succ m ih =>
    constructor
    · intro h1 h2
      rw [cnt_s, cnt_s]
      by_cases e : m = m0
      · subst e
        rw [ih.2 (Nat.le_refl _), if_pos h2, if_neg (by simp)]
      · rw [ih.1 (by omega) h2]
        simp only [e, ne_eq, not_false_eq_true, decide_true, Bool.and_true]
        omega
    · intro h1
      rw [cnt_s, cnt_s, ih.2 (by omega)]
      have e : m ≠ m0 := by omega
      simp [e]
theorem cnt_inj {m : Nat} : ∀ (n : Nat) (P Q : Nat → Bool) (f : Nat → Nat), (∀ k, k < n → Q k = true → f k < m ∧ P (f k) = true) → (∀ j k, j < n → k < n → Q j = true → Q k = true → f j = f k → j = k) → cnt Q n ≤ cnt P m := by
  intro n
  induction n with
  | zero => intro P Q f _ _; exact Nat.zero_le _
  | succ n ih =>
    intro P Q f h1 h2
    rw [cnt_s]
    by_cases hq : Q n = true
    · rw [if_pos hq]
      obtain ⟨a1, a2⟩ := h1 n (by omega) hq
      rw [(cnt_out m).1 a1 a2]
      have := ih (fun k => P k && decide (k ≠ f n)) Q f (fun k hk hqk => by
        obtain ⟨b1, b2⟩ := h1 k (by omega) hqk
        refine ⟨b1, ?_⟩
        have : f k ≠ f n := fun e => by have := h2 k n (by omega) (by omega) hqk hq e; omega
        simp [b2, this]) (fun j k hj hk => h2 j k (by omega) (by omega))
      omega
    · rw [if_neg hq]
      exact ih P Q f (fun k hk => h1 k (by omega)) (fun j k hj hk => h2 j k (by omega) (by omega))
theorem cnt_xor (P : Nat → Bool) {c : Nat} (hc : c < 256) : cnt (fun p => P (p ^^^ c)) 256 = cnt P 256 := by
  have hx : ∀ k, k < 256 → k ^^^ c < 256 := fun k hk => Nat.xor_lt_two_pow (n := 8) hk hc
  have inj : ∀ j k : Nat, j ^^^ c = k ^^^ c → j = k := fun j k e => by rw [← xrs j c, e, xrs]
  apply Nat.le_antisymm
  · exact cnt_inj 256 _ _ (fun k => k ^^^ c) (fun k hk hq => ⟨hx k hk, hq⟩) (fun j k _ _ _ _ e => inj j k e)
  · exact cnt_inj 256 _ _ (fun k => k ^^^ c) (fun k hk hq => ⟨hx k hk, by show P ((k ^^^ c) ^^^ c) = true; rw [xrs]; exact hq⟩) (fun j k _ _ _ _ e => inj j k e)
theorem cnt_or {P Q : Nat → Bool} : ∀ n, (∀ k, k < n → ¬ (P k = true ∧ Q k = true)) → cnt (fun k => P k || Q k) n = cnt P n + cnt Q n := by
  intro n
  induction n with
  | zero => intro _; rfl
  | succ n ih =>
    intro h
    rw [cnt_s, cnt_s, cnt_s, ih (fun k hk => h k (by omega))]
    have := h n (by omega)
    cases hp : P n with
    | true =>
      cases hq : Q n with
      | true => exact absurd ⟨hp, hq⟩ this
      | false => simp; omega
    | false => cases hq : Q n <;> simp <;> omega
theorem cnt_all {P : Nat → Bool} : ∀ n, (cnt P n = n ↔ ∀ k, k < n → P k = true) := by
  intro n
  induction n with
  | zero => exact ⟨fun _ k hk => by omega, fun _ => rfl⟩
  | succ n ih =>
    have hle := cnt_le P n
    rw [cnt_s]
    constructor
    · intro h k hk
      by_cases hq : P n = true
      · rw [if_pos hq] at h
        by_cases e : k = n
        · rw [e]; exact hq
        · exact ih.mp (by omega) k (by omega)
      · rw [if_neg hq] at h; omega
    · intro h
      rw [if_pos (h n (by omega)), ih.mpr (fun k hk => h k (by omega))]
/-- how many the cords span -/
def nSp (tn : Nat → Nat) (F n : Nat) : Nat := cnt (spb tn F n) 256
theorem cnt_two {tn : Nat → Nat} {F n t : Nat} (ht : t < 256) : cnt (fun v => spb tn F n v || spb tn F n (v ^^^ t)) 256 = if spb tn F n t = true then nSp tn F n else nSp tn F n * 2 := by
  by_cases h : spb tn F n t = true
  · rw [if_pos h]
    refine cnt_ext 256 (fun v _ => ?_)
    cases h1 : spb tn F n v with
    | true => rfl
    | false =>
      cases h2 : spb tn F n (v ^^^ t) with
      | false => rfl
      | true =>
        have := spb_x h2 h
        rw [xrs, h1] at this
        cases this
  · rw [if_neg h, cnt_or 256 (fun v hv q => h ?_), cnt_xor (spb tn F n) ht]
    · unfold nSp; omega
    · have := spb_x q.1 q.2
      rw [xrt] at this
      exact this
theorem nSp_0 (tn : Nat → Nat) (F : Nat) : nSp tn F 0 = 1 := by
  have : ∀ f : Nat → Bool, (∀ v, f v = decide (v = 0)) → cnt f 256 = 1 := by
    intro f hf
    have e : f = fun v => decide (v = 0) := funext hf
    rw [e]; decide +kernel
  exact this _ (fun v => rfl)
theorem nSp_s {tn : Nat → Nat} {F n : Nat} (ht : tn n < 256) : nSp tn F (n + 1) = if F.testBit n = true ∧ spb tn F n (tn n) = false then nSp tn F n * 2 else nSp tn F n := by
  by_cases hF : F.testBit n = true
  · have e : nSp tn F (n + 1) = cnt (fun v => spb tn F n v || spb tn F n (v ^^^ tn n)) 256 := cnt_ext 256 (fun v _ => by rw [spb_s, hF, Bool.true_and])
    rw [e, cnt_two ht]
    by_cases h : spb tn F n (tn n) = true
    · rw [if_pos h, if_neg (fun q => by rw [h] at q; cases q.2)]
    · rw [if_neg h, if_pos ⟨hF, by simpa using h⟩]
  · have e : nSp tn F (n + 1) = nSp tn F n := cnt_ext 256 (fun v _ => by
      have : F.testBit n = false := by simpa using hF
      rw [spb_s, this, Bool.false_and, Bool.or_false])
    rw [e, if_neg (fun q => hF q.1)]
theorem nSp_le (tn : Nat → Nat) (F n : Nat) : nSp tn F n ≤ 256 := cnt_le _ _
theorem nSp_pos (tn : Nat → Nat) (F n : Nat) : 0 < nSp tn F n := by
  unfold nSp
  rw [(cnt_out (P := spb tn F n) (m0 := 0) 256).1 (by decide) (spb_0 tn F n)]
  omega
