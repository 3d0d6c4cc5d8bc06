/-! the best of what is offered -/
def lxl (s : Int32) (p : Nat) (s' : Int32) (p' : Nat) : Prop := s < s' ∨ (s = s' ∧ p ≤ p')
def IB (P : Int32 → Nat → Prop) : Option (Int32 × Nat) → Prop
  | none => ∀ s p, ¬ P s p
  | some (s, p) => P s p ∧ ∀ s' p', P s' p' → lxl s p s' p'
theorem lxl_anti {s s' : Int32} {p p' : Nat} (h : lxl s p s' p') (h2 : lxl s' p' s p) : s = s' ∧ p = p' := by
  unfold lxl at h h2
  rw [Int32.lt_iff_toInt_lt] at h h2
  rcases h with h | ⟨rfl, h⟩
  · rcases h2 with h2 | ⟨h2, _⟩
    · omega
    · rw [h2] at h; omega
  · rcases h2 with h2 | ⟨_, h2⟩
    · omega
    · exact ⟨rfl, by omega⟩
theorem lxl_trans {s s' s'' : Int32} {p p' p'' : Nat} (h : lxl s p s' p') (h2 : lxl s' p' s'' p'') : lxl s p s'' p'' := by
  unfold lxl at h h2 ⊢
  rw [Int32.lt_iff_toInt_lt] at h h2 ⊢
  rcases h with h | ⟨rfl, h⟩
  · rcases h2 with h2 | ⟨rfl, h2⟩
    · left; omega
    · left; omega
  · rcases h2 with h2 | ⟨rfl, h2⟩
    · left; omega
    · right; exact ⟨rfl, by omega⟩
theorem IB.uni {P : Int32 → Nat → Prop} {o o' : Option (Int32 × Nat)} (h : IB P o) (h' : IB P o') : o = o' := by
  cases o with
  | none =>
    cases o' with
    | none => rfl
    | some q => exact absurd h'.1 (h _ _)
  | some q =>
    cases o' with
    | none => exact absurd h.1 (h' _ _)
    | some q' =>
      have := lxl_anti (h.2 _ _ h'.1) (h'.2 _ _ h.1)
      rw [Option.some.injEq]
      exact Prod.ext this.1 this.2
theorem IB.ext {P Q : Int32 → Nat → Prop} {o : Option (Int32 × Nat)} (h : IB P o) (e : ∀ s p, P s p ↔ Q s p) : IB Q o := by
  cases o with
  | none => exact fun s p q => h s p ((e s p).mpr q)
  | some q => exact ⟨(e _ _).mp h.1, fun s' p' z => h.2 s' p' ((e _ _).mpr z)⟩
def bp : Option (Int32 × Nat) → Int32
  | none => -1
  | some q => nI q.2
def off (o : Option (Int32 × Nat)) (x : Int32) (p : Nat) : Option (Int32 × Nat) := match o with
  | none => some (x, p)
  | some (s, q) => if x < s ∨ (x = s ∧ p < q) then some (x, p) else some (s, q)
theorem IB.add {P : Int32 → Nat → Prop} {o : Option (Int32 × Nat)} (h : IB P o) (x : Int32) (p : Nat) : IB (fun s q => P s q ∨ (s = x ∧ q = p)) (off o x p) := by
  cases o with
  | none =>
    refine ⟨Or.inr ⟨rfl, rfl⟩, fun s' p' q => ?_⟩
    rcases q with q | ⟨rfl, rfl⟩
    · exact absurd q (h _ _)
    · exact Or.inr ⟨rfl, Nat.le_refl _⟩
  | some z =>
    obtain ⟨s, q⟩ := z
    obtain ⟨h1, h2⟩ := h
    by_cases hx : x < s ∨ (x = s ∧ p < q)
    · have e : off (some (s, q)) x p = some (x, p) := if_pos hx
      rw [e]
      refine ⟨Or.inr ⟨rfl, rfl⟩, fun s' p' w => ?_⟩
      rcases w with w | ⟨rfl, rfl⟩
      · refine lxl_trans (?_ : lxl x p s q) (h2 _ _ w)
        rcases hx with hx | ⟨hx, hy⟩
        · exact Or.inl hx
        · exact Or.inr ⟨hx, by omega⟩
      · exact Or.inr ⟨rfl, Nat.le_refl _⟩
    · have e : off (some (s, q)) x p = some (s, q) := if_neg hx
      rw [e]
      refine ⟨Or.inl h1, fun s' p' w => ?_⟩
      rcases w with w | ⟨rfl, rfl⟩
      · exact h2 _ _ w
      · unfold lxl
        rw [Int32.lt_iff_toInt_lt] at hx ⊢
        by_cases hlt : s.toInt < s'.toInt
        · exact Or.inl hlt
        · have he : s = s' := Int32.toInt_inj.mp (by omega)
          exact Or.inr ⟨he, by
            by_cases hq : q ≤ p'
            · exact hq
            · exact absurd (Or.inr ⟨he.symm, by omega⟩) hx⟩
/-- the class's Best -/
def BS (o : Option (Int32 × Nat)) (M : AM) : Prop := gI M 87 1 = bp o ∧ ∀ q, o = some q → gI M 87 0 = q.1 ∧ q.2 < 2 ^ 31
theorem scr87 (k : Nat) : scr 87 k := by unfold scr; omega
theorem clear_ok (M : AM) : ∃ M', f_Best_clear M = some ((), M') ∧ BS none M' ∧ Sm M M' := by
  refine ⟨sI (sI M 87 0 0) 87 1 (-1), rfl, ⟨rfl, fun q h => by cases h⟩, (Sm.rfl'.sI (scr87 0)).sI (scr87 1)⟩
theorem offer_ok {o : Option (Int32 × Nat)} {M : AM} (h : BS o M) (x : Int32) {p : Nat} (hp : p < 2 ^ 31) : ∃ M', f_Best_offer x (nI p) M = some ((), M') ∧ BS (off o x p) M' ∧ Sm M M' := by
  have hw : BS (some (x, p)) (sI (sI M 87 0 x) 87 1 (nI p)) ∧ Sm M (sI (sI M 87 0 x) 87 1 (nI p)) := ⟨⟨rfl, fun q hq => by cases hq; exact ⟨rfl, hp⟩⟩, (Sm.rfl'.sI (scr87 0)).sI (scr87 1)⟩
  unfold f_Best_offer f_Best_offer_j31
  cases o with
  | none =>
    refine ⟨_, ?_, hw.1, hw.2⟩
    rw [h.1, if_pos (by decide)]; rfl
  | some z =>
    obtain ⟨s, q⟩ := z
    obtain ⟨h1, h2⟩ := h
    obtain ⟨h3, h4⟩ := h2 _ rfl
    simp only at h3 h4
    have h1' : gI M 87 1 = nI q := h1
    rw [h1', h3, if_neg (nI_pos h4)]
    by_cases hx : x < s
    · refine ⟨_, ?_, ?_, hw.2⟩
      · rw [if_pos hx]; rfl
      · have e : off (some (s, q)) x p = some (x, p) := if_pos (Or.inl hx)
        rw [e]; exact hw.1
    · rw [if_neg hx]
      by_cases he : x = s
      · rw [if_pos he]
        by_cases hq : q ≤ p
        · refine ⟨M, by rw [if_pos (nI_le hq hp)], ?_, Sm.rfl'⟩
          have e : off (some (s, q)) x p = some (s, q) := if_neg (fun w => w.elim hx (fun w => by omega))
          rw [e]; exact ⟨h1, fun q hq => by cases hq; exact ⟨h3, h4⟩⟩
        · refine ⟨_, ?_, ?_, hw.2⟩
          · rw [if_neg (nI_ge (by omega) h4)]; rfl
          · have e : off (some (s, q)) x p = some (x, p) := if_pos (Or.inr ⟨he, by omega⟩)
            rw [e]; exact hw.1
      · rw [if_neg he]
        refine ⟨M, rfl, ?_, Sm.rfl'⟩
        have e : off (some (s, q)) x p = some (s, q) := if_neg (fun w => w.elim hx (fun w => he w.1))
        rw [e]; exact ⟨h1, fun q hq => by cases hq; exact ⟨h3, h4⟩⟩
/-- a loop that offers, for each k, what cand tells -/
theorem best_loop {M M0 : AM} (L : Nat → Int32 → AM → Option (Unit × AM)) (i n : Nat) (cand : Nat → Option (Int32 × Nat)) (hin : i ≤ n) (hn : n < 100000) (hsm : Sm M M0) (hb : BS none M0)
    (stepN : ∀ k z N, i ≤ k → k < n → Sm M N → cand k = none → ∃ N', L (z + 1) (nI k) N = L z (nI (k + 1)) N' ∧ Sm N N' ∧ (∀ j, gI N' 87 j = gI N 87 j))
    (stepS : ∀ k z N x p, i ≤ k → k < n → Sm M N → cand k = some (x, p) → p < 2 ^ 31 ∧ ∃ N', L (z + 1) (nI k) N = bnd (f_Best_offer x (nI p) N') (fun _ N2 => L z (nI (k + 1)) N2) ∧ Sm N N' ∧ (∀ j, gI N' 87 j = gI N 87 j))
    (stop : ∀ z N, Sm M N → L (z + 1) (nI n) N = some ((), N)) :
    ∃ o M1, IB (fun s p => ∃ k, i ≤ k ∧ k < n ∧ cand k = some (s, p)) o ∧ BS o M1 ∧ L fu (nI i) M0 = some ((), M1) ∧ Sm M M1 := by
  have key : ∃ r, L fu (nI i) M0 = some r ∧ (∃ o, IB (fun s p => ∃ k, i ≤ k ∧ k < n ∧ cand k = some (s, p)) o ∧ BS o r.2 ∧ Sm M r.2) := by
    refine for_inv (fun z (s : Int32 × AM) => L z s.1 s.2) (fun k s => s.1 = nI k ∧ Sm M s.2 ∧ i ≤ k ∧ ∃ o, IB (fun s p => ∃ k', i ≤ k' ∧ k' < k ∧ cand k' = some (s, p)) o ∧ BS o s.2) n _ (fun k s z hk hI => ?_) (fun s z hI => ?_) (n - i) i (nI i, M0) fu (by omega) (by rw [fu_eq]; omega) ⟨rfl, hsm, Nat.le_refl _, none, fun s p q => by obtain ⟨k', h1, h2, _⟩ := q; omega, hb⟩
    · obtain ⟨v, N⟩ := s
      obtain ⟨rfl, i1, hik, o, i2, i3⟩ := hI
      simp only at i1 i3
      left
      cases hc : cand k with
      | none =>
        obtain ⟨N', e1, e2, e3⟩ := stepN k z N hik hk i1 hc
        refine ⟨(nI (k + 1), N'), ⟨rfl, i1.trans e2, by omega, o, i2.ext (fun s p => ⟨fun ⟨k', h1, h2, h3⟩ => ⟨k', h1, by omega, h3⟩, fun ⟨k', h1, h2, h3⟩ => ⟨k', h1, ?_, h3⟩⟩), ⟨?_, fun q hq => ?_⟩⟩, e1⟩
        · by_cases hkk : k' = k
          · rw [hkk, hc] at h3; cases h3
          · omega
        · show gI N' 87 1 = _
          rw [e3]; exact i3.1
        · show gI N' 87 0 = _ ∧ _
          rw [e3]; exact i3.2 q hq
      | some xp =>
        obtain ⟨x, p⟩ := xp
        obtain ⟨hp, N', e1, e2, e3⟩ := stepS k z N x p hik hk i1 hc
        have i3' : BS o N' := ⟨by rw [e3]; exact i3.1, fun q hq => by rw [e3]; exact i3.2 q hq⟩
        obtain ⟨N2, f1, f2, f3⟩ := offer_ok i3' x hp
        refine ⟨(nI (k + 1), N2), ⟨rfl, (i1.trans e2).trans f3, by omega, off o x p, (i2.add x p).ext (fun s q => ⟨?_, ?_⟩), f2⟩, ?_⟩
        · rintro (⟨k', h1, h2, h3⟩ | ⟨rfl, rfl⟩)
          · exact ⟨k', h1, by omega, h3⟩
          · exact ⟨k, hik, by omega, hc⟩
        · rintro ⟨k', h1, h2, h3⟩
          by_cases hkk : k' = k
          · rw [hkk, hc] at h3
            cases h3
            exact Or.inr ⟨rfl, rfl⟩
          · exact Or.inl ⟨k', h1, by omega, h3⟩
        · show L (z + 1) (nI k) N = L z (nI (k + 1)) N2
          rw [e1, f1, bnd_s]
    · obtain ⟨v, N⟩ := s
      obtain ⟨rfl, i1, hik, o, i2, i3⟩ := hI
      exact ⟨((), N), stop z N i1, o, i2, i3, i1⟩
  obtain ⟨⟨u, M1⟩, k1, o, k2, k3, k4⟩ := key
  exact ⟨o, M1, k2, k3, k1, k4⟩
/-- the reference's scan: the first best stays -/
def scn (cand : Nat → Option Int32) : Nat → Option (Int32 × Nat)
  | 0 => none
  | k + 1 => match cand k with
    | none => scn cand k
    | some s => match scn cand k with
      | none => some (s, k)
      | some (s0, p0) => if s < s0 then some (s, k) else some (s0, p0)
theorem scn_n {cand : Nat → Option Int32} {k : Nat} (h : cand k = none) : scn cand (k + 1) = scn cand k := by simp only [scn, h]
theorem scn_0 {cand : Nat → Option Int32} {k : Nat} {s : Int32} (h : cand k = some s) (h0 : scn cand k = none) : scn cand (k + 1) = some (s, k) := by simp only [scn, h, h0]
theorem scn_1 {cand : Nat → Option Int32} {k : Nat} {s s0 : Int32} {p0 : Nat} (h : cand k = some s) (h0 : scn cand k = some (s0, p0)) : scn cand (k + 1) = if s < s0 then some (s, k) else some (s0, p0) := by simp only [scn, h, h0]
theorem scn_ok (cand : Nat → Option Int32) : ∀ n, IB (fun s p => p < n ∧ cand p = some s) (scn cand n) := by
  intro n
  induction n with
  | zero => intro s p q; omega
  | succ n ih =>
    cases hc : cand n with
    | none =>
      rw [scn_n hc]
      refine ih.ext (fun s p => ⟨fun h => ⟨by omega, h.2⟩, fun h => ⟨?_, h.2⟩⟩)
      by_cases hp : p = n
      · rw [hp, hc] at h; cases h.2
      · omega
    | some s =>
      cases h0 : scn cand n with
      | none =>
        rw [scn_0 hc h0]
        rw [h0] at ih
        refine ⟨⟨by omega, hc⟩, fun s' p' q => ?_⟩
        by_cases hp : p' = n
        · rw [hp, hc] at q
          cases q.2
          exact Or.inr ⟨rfl, by omega⟩
        · exact absurd ⟨by omega, q.2⟩ (ih s' p')
      | some z =>
        obtain ⟨s0, p0⟩ := z
        rw [scn_1 hc h0]
        rw [h0] at ih
        obtain ⟨⟨i1, i2⟩, i3⟩ := ih
        by_cases hs : s < s0
        · rw [if_pos hs]
          refine ⟨⟨by omega, hc⟩, fun s' p' q => ?_⟩
          by_cases hp : p' = n
          · rw [hp, hc] at q
            cases q.2
            exact Or.inr ⟨rfl, by omega⟩
          · exact lxl_trans (Or.inl hs) (i3 s' p' ⟨by omega, q.2⟩)
        · rw [if_neg hs]
          refine ⟨⟨by omega, i2⟩, fun s' p' q => ?_⟩
          by_cases hp : p' = n
          · rw [hp, hc] at q
            cases q.2
            unfold lxl
            rw [Int32.lt_iff_toInt_lt] at hs ⊢
            by_cases hlt : s0.toInt < s.toInt
            · exact Or.inl hlt
            · exact Or.inr ⟨Int32.toInt_inj.mp (by omega), by omega⟩
          · exact i3 s' p' ⟨by omega, q.2⟩
/-- the pick of a scan is one of what was offered -/
theorem scn_in {cand : Nat → Option Int32} {n : Nat} {s : Int32} {p : Nat} (h : scn cand n = some (s, p)) : p < n ∧ cand p = some s := by
  have := scn_ok cand n
  rw [h] at this
  exact this.1
theorem scan_loop {M M0 : AM} (L : Nat → Int32 → Int32 → AM → Option (Int32 × AM)) (i n : Nat) (cand : Nat → Option Int32) (hin : i ≤ n) (hn : n < 100000) (hsm : Sm M M0) (h0 : scn cand i = none)
    (stepN : ∀ k z N v, i ≤ k → k < n → Sm M N → cand k = none → ∃ N', L (z + 1) v (nI k) N = L z v (nI (k + 1)) N' ∧ Sm N N')
    (step0 : ∀ k z N s, i ≤ k → k < n → Sm M N → cand k = some s → ∃ N', L (z + 1) (-1) (nI k) N = L z (nI k) (nI (k + 1)) N' ∧ Sm N N')
    (step1 : ∀ k z N s s0 p0, i ≤ k → k < n → Sm M N → cand k = some s → p0 < k → cand p0 = some s0 → ∃ N', L (z + 1) (nI p0) (nI k) N = L z (if s < s0 then nI k else nI p0) (nI (k + 1)) N' ∧ Sm N N')
    (stop : ∀ z N v, Sm M N → L (z + 1) v (nI n) N = some (v, N)) :
    ∃ M1, L fu (-1) (nI i) M0 = some (bp (scn cand n), M1) ∧ Sm M M1 := by
  have key : ∃ r, L fu (-1) (nI i) M0 = some r ∧ (r.1 = bp (scn cand n) ∧ Sm M r.2) := by
    refine for_inv (fun z (s : Int32 × Int32 × AM) => L z s.1 s.2.1 s.2.2) (fun k s => s.1 = bp (scn cand k) ∧ s.2.1 = nI k ∧ Sm M s.2.2 ∧ i ≤ k) n _ (fun k s z hk hI => ?_) (fun s z hI => ?_) (n - i) i (-1, nI i, M0) fu (by omega) (by rw [fu_eq]; omega) ⟨by rw [h0]; rfl, rfl, hsm, Nat.le_refl _⟩
    · obtain ⟨v, v2, N⟩ := s
      obtain ⟨rfl, rfl, i1, hik⟩ := hI
      simp only at i1
      left
      cases hc : cand k with
      | none =>
        obtain ⟨N', e1, e2⟩ := stepN k z N (bp (scn cand k)) hik hk i1 hc
        exact ⟨(bp (scn cand k), nI (k + 1), N'), ⟨by rw [scn_n hc], rfl, i1.trans e2, by omega⟩, e1⟩
      | some s =>
        cases hs : scn cand k with
        | none =>
          obtain ⟨N', e1, e2⟩ := step0 k z N s hik hk i1 hc
          exact ⟨(nI k, nI (k + 1), N'), ⟨by rw [scn_0 hc hs]; rfl, rfl, i1.trans e2, by omega⟩, e1⟩
        | some q =>
          obtain ⟨s0, p0⟩ := q
          obtain ⟨hp, hc0⟩ := scn_in hs
          obtain ⟨N', e1, e2⟩ := step1 k z N s s0 p0 hik hk i1 hc hp hc0
          refine ⟨(if s < s0 then nI k else nI p0, nI (k + 1), N'), ⟨?_, rfl, i1.trans e2, by omega⟩, e1⟩
          rw [scn_1 hc hs]
          by_cases hlt : s < s0
          · rw [if_pos hlt, if_pos hlt]; rfl
          · rw [if_neg hlt, if_neg hlt]; rfl
    · obtain ⟨v, v2, N⟩ := s
      obtain ⟨rfl, rfl, i1, hik⟩ := hI
      exact ⟨(bp (scn cand n), N), stop z N _ i1, rfl, i1⟩
  obtain ⟨⟨v, M1⟩, k1, k2, k3⟩ := key
  simp only at k2
  exact ⟨M1, by rw [k1, k2], k3⟩
/-- a question answered by something that is unique -/
theorem Both.uni {α ρ : Type} {fC fM : AM → Option (α × AM)} (X : DT → ρ → Prop) (ans : DT → ρ → α) (u : ∀ D o o', X D o → X D o' → o = o') (hC : ∀ D M, Rel D M → ∃ o M1, X D o ∧ fC M = some (ans D o, M1) ∧ Sm M M1) (hM : ∀ D M, Rel D M → ∃ o M1, X D o ∧ fM M = some (ans D o, M1) ∧ Sm M M1) : Both fC fM := by
  intro D M hR
  obtain ⟨o, M1, x1, h1, h2⟩ := hC D M hR
  obtain ⟨o', M2, x2, h3, h4⟩ := hM D M1 (hR.sm h2)
  rw [u D o' o x2 x1] at h3
  exact ⟨_, M1, M2, D, h1, h3, hR.sm (h2.trans h4)⟩
