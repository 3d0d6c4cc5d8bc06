/-! the dusk as the reference reads it: a yard of signs that wait -/
def tgt (o : Nat) : Nat := if o = 21 then 3 else if o = 38 then 2 else if o = 43 ∨ o = 45 then 5 else if o = 60 ∨ o = 61 ∨ o = 62 then 4 else if o = 124 then 1 else 6
def sgk (k : Nat) : Nat := if k = 138 then 38 else if k = 137 then 124 else if k = 60 ∨ k = 62 ∨ k = 61 ∨ k = 43 ∨ k = 45 ∨ k = 42 ∨ k = 47 ∨ k = 37 then k else 0
def tgs (k : Nat) : Nat := if sgk k = 0 then 0 else tgt (sgk k)
def dpt : List Nat → Nat
  | [] => 0
  | o :: S => dpt S + (if o = 20 ∨ o = 21 then 1 else 0)
def topt : List Nat → Nat
  | [] => 0
  | o :: _ => if o = 20 then 0 else tgt o
def brk : List Nat → Bool
  | [] => false
  | o :: S => if o = 20 then true else brk S
def hrel : List Nat → Bool
  | [] => false
  | o :: S => if o = 20 then false else if tgt o ≤ 4 then decide (tgt o = 4) else hrel S
def adp (o : Nat) (E : DT) : DT := if o = 21 then putE E 2 0 else putE E 3 o
def clo (t : Nat) : List Nat → DT → List Nat × DT
  | [], E => ([], E)
  | o :: S, E => if o = 20 then (o :: S, E) else if tgt o < t then (o :: S, E) else clo t S (adp o E)
theorem clo_c (t o : Nat) (S : List Nat) (E : DT) : clo t (o :: S) E = if o = 20 then (o :: S, E) else if tgt o < t then (o :: S, E) else clo t S (adp o E) := rfl
def finY (f : Nat → Nat) (i : Nat) (S : List Nat) (E : DT) : RSL := if brk S = true then flt f i 2 else sExp f 59 i (clo 0 S E).2
def MA (f : Nat → Nat) : Nat → Bool → Nat → List Nat → DT → RSL
  | 0, _, _, _, _ => .inr (0, 0)
  | k + 1, true, i, S, E => if knd f i = 139 ∧ topt S < 4 then (if dpt S < 7 then MA f k true (i + 1) (21 :: S) E else flt f i 2) else if knd f i = 40 then (if E 0 5 < 30 ∧ dpt S < 7 then MA f k true (i + 1) (20 :: S) (untE E) else flt f i 2) else if (140 ≤ knd f i ∧ knd f i ≤ 145) ∨ knd f i = 3 then (if E 0 5 < 30 then MA f k false (i + 1) S (putE (untE E) (if knd f i = 3 then 0 else 1) (if knd f i = 3 then tkD f (plc f i) else knd f i - 140)) else flt f i 2) else flt f i 2
  | k + 1, false, i, S, E => if knd f i = 41 ∧ brk S = true then MA f k false (i + 1) (clo 0 S E).1.tail (clo 0 S E).2 else if sgk (knd f i) = 0 ∨ (tgs (knd f i) = 4 ∧ hrel S = true) then finY f i S E else MA f k true (i + 1) (sgk (knd f i) :: (clo (tgs (knd f i)) S E).1) (clo (tgs (knd f i)) S E).2
theorem MA_u (f : Nat → Nat) (k i : Nat) (S : List Nat) (E : DT) : MA f (k + 1) true i S E = if knd f i = 139 ∧ topt S < 4 then (if dpt S < 7 then MA f k true (i + 1) (21 :: S) E else flt f i 2) else if knd f i = 40 then (if E 0 5 < 30 ∧ dpt S < 7 then MA f k true (i + 1) (20 :: S) (untE E) else flt f i 2) else if (140 ≤ knd f i ∧ knd f i ≤ 145) ∨ knd f i = 3 then (if E 0 5 < 30 then MA f k false (i + 1) S (putE (untE E) (if knd f i = 3 then 0 else 1) (if knd f i = 3 then tkD f (plc f i) else knd f i - 140)) else flt f i 2) else flt f i 2 := rfl
theorem MA_m (f : Nat → Nat) (k i : Nat) (S : List Nat) (E : DT) : MA f (k + 1) false i S E = if knd f i = 41 ∧ brk S = true then MA f k false (i + 1) (clo 0 S E).1.tail (clo 0 S E).2 else if sgk (knd f i) = 0 ∨ (tgs (knd f i) = 4 ∧ hrel S = true) then finY f i S E else MA f k true (i + 1) (sgk (knd f i) :: (clo (tgs (knd f i)) S E).1) (clo (tgs (knd f i)) S E).2 := rfl
/-- a sign that waits on top goes where the next sign is not tighter -/
theorem MA_pop {f : Nat → Nat} {i o : Nat} {S : List Nat} {E : DT} (ho : ¬ o = 20) (ht : tgs (knd f i) ≤ tgt o) (h4 : tgs (knd f i) = 4 → 4 < tgt o) (k : Nat) : MA f k false i (o :: S) E = MA f k false i S (adp o E) := by
  cases k with
  | zero => rfl
  | succ k =>
    have c0 : ∀ t, t ≤ tgt o → clo t (o :: S) E = clo t S (adp o E) := fun t h => by rw [clo_c, if_neg ho, if_neg (by omega)]
    have eb : brk (o :: S) = brk S := if_neg ho
    have eh : tgs (knd f i) = 4 → hrel (o :: S) = hrel S := fun h => by
      show (if o = 20 then false else if tgt o ≤ 4 then decide (tgt o = 4) else hrel S) = _
      rw [if_neg ho, if_neg (by have := h4 h; omega)]
    rw [MA_m, MA_m, eb, c0 0 (Nat.zero_le _), c0 _ ht]
    by_cases a : knd f i = 41 ∧ brk S = true
    · rw [if_pos a, if_pos a]
    · rw [if_neg a, if_neg a]
      have ef : finY f i (o :: S) E = finY f i S (adp o E) := by
        unfold finY
        rw [eb, c0 0 (Nat.zero_le _)]
      by_cases b : tgs (knd f i) = 4
      · rw [eh b, ef]
      · by_cases c : sgk (knd f i) = 0
        · rw [if_pos (Or.inl c), if_pos (Or.inl c), ef]
        · rw [if_neg (fun q => q.elim c (fun q => b q.1)), if_neg (fun q => q.elim c (fun q => b q.1))]
theorem clo_no {t : Nat} {S : List Nat} {E : DT} (h : topt S < t) : clo t S E = (S, E) := by
  cases S with
  | nil => rfl
  | cons o S =>
    rw [clo_c]
    by_cases e : o = 20
    · rw [if_pos e]
    · rw [if_neg e]
      have : topt (o :: S) = tgt o := if_neg e
      rw [if_pos (by omega)]
theorem hrel_no {S : List Nat} (h : topt S ≤ 3) : hrel S = false := by
  cases S with
  | nil => rfl
  | cons o S =>
    show (if o = 20 then false else if tgt o ≤ 4 then decide (tgt o = 4) else hrel S) = _
    by_cases e : o = 20
    · rw [if_pos e]
    · have : topt (o :: S) = tgt o := if_neg e
      rw [if_neg e, if_pos (by omega)]
      simp; omega
def rdy (m : Nat) : Nat := if m = 0 then 0 else if m = 1 then 1 else if m = 2 then 3 else if m = 3 then 4 else if m = 4 then 5 else 6
theorem tgs_cases (k : Nat) : (tgs k = 0 ∧ sgk k = 0 ∧ lvl k = 9 ∧ ¬ rel3 k) ∨ (tgs k = 1 ∧ k = 137 ∧ sgk k = 124) ∨ (tgs k = 2 ∧ k = 138 ∧ sgk k = 38) ∨ (tgs k = 4 ∧ rel3 k ∧ sgk k = k ∧ lvl k = 9) ∨ (tgs k = 5 ∧ (k = 43 ∨ k = 45) ∧ sgk k = k) ∨ (tgs k = 6 ∧ (k = 42 ∨ k = 47 ∨ k = 37) ∧ sgk k = k) := by
  by_cases h1 : k = 137
  · subst h1; right; left; decide
  by_cases h2 : k = 138
  · subst h2; right; right; left; decide
  by_cases h3 : k = 60 ∨ k = 62 ∨ k = 61
  · right; right; right; left
    rcases h3 with rfl | rfl | rfl <;> decide
  by_cases h4 : k = 43 ∨ k = 45
  · right; right; right; right; left
    rcases h4 with rfl | rfl <;> decide
  by_cases h5 : k = 42 ∨ k = 47 ∨ k = 37
  · right; right; right; right; right
    rcases h5 with rfl | rfl | rfl <;> decide
  left
  have e : sgk k = 0 := by
    unfold sgk
    rw [if_neg h2, if_neg h1, if_neg (by omega)]
  refine ⟨by unfold tgs; rw [if_pos e], e, ?_, h3⟩
  unfold lvl
  rw [if_neg h1, if_neg h2, if_neg h4, if_neg h5]
theorem lvl_T {k m : Nat} (h : lvl k = m) (hm : m ≤ 4) (h2 : ¬ m = 2) : ∃ o, sgk k = o ∧ o = sg k ∧ tgs k = tgt o ∧ ¬ o = 0 ∧ ¬ o = 20 ∧ ¬ o = 21 ∧ ¬ tgt o = 4 ∧ rdy m < tgt o ∧ tgt o ≤ rdy (m + 1) ∧ (3 ≤ m → 4 < tgt o) ∧ ¬ k = 41 ∧ 2 ≤ k := by
  unfold lvl at h
  by_cases h1 : k = 137
  · subst h1
    have : m = 0 := h.symm
    subst this
    exact ⟨124, rfl, rfl, rfl, by decide, by decide, by decide, by decide, by decide, by decide, by decide, by decide, by decide⟩
  rw [if_neg h1] at h
  by_cases h3 : k = 138
  · subst h3
    have : m = 1 := h.symm
    subst this
    exact ⟨38, rfl, rfl, rfl, by decide, by decide, by decide, by decide, by decide, by decide, by decide, by decide, by decide⟩
  rw [if_neg h3] at h
  by_cases h4 : k = 43 ∨ k = 45
  · rw [if_pos h4] at h
    have : m = 3 := h.symm
    subst this
    rcases h4 with rfl | rfl
    · exact ⟨43, rfl, rfl, rfl, by decide, by decide, by decide, by decide, by decide, by decide, by decide, by decide, by decide⟩
    · exact ⟨45, rfl, rfl, rfl, by decide, by decide, by decide, by decide, by decide, by decide, by decide, by decide, by decide⟩
  rw [if_neg h4] at h
  by_cases h5 : k = 42 ∨ k = 47 ∨ k = 37
  · rw [if_pos h5] at h
    have : m = 4 := h.symm
    subst this
    rcases h5 with rfl | rfl | rfl
    · exact ⟨42, rfl, rfl, rfl, by decide, by decide, by decide, by decide, by decide, by decide, by decide, by decide, by decide⟩
    · exact ⟨47, rfl, rfl, rfl, by decide, by decide, by decide, by decide, by decide, by decide, by decide, by decide, by decide⟩
    · exact ⟨37, rfl, rfl, rfl, by decide, by decide, by decide, by decide, by decide, by decide, by decide, by decide, by decide⟩
  rw [if_neg h5] at h
  omega
