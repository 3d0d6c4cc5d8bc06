theorem bp_none : ¬ (0 : Int32) ≤ bp none := by decide
theorem bp_some {s : Int32} {p : Nat} (h : p < 2 ^ 31) : (0 : Int32) ≤ bp (some (s, p)) := nI_pos' h
/-- of sets that are so: the least score, then the least number -/
def SX (D : DT) (A : Nat → Prop) (f : Nat → Int32) (s : Int32) (p : Nat) : Prop := p < 2 ^ D 0 1 ∧ p &&& D (10 + D 7 0) 1 = 0 ∧ A p ∧ s = f p
/-- the class's loop over all sets -/
theorem setsC {D : DT} {M M0 : AM} (h : Rel D M) (L : Nat → Int32 → AM → Option (Unit × AM)) (i : Nat) (hi : i ≤ 2 ^ D 0 1) (A : Nat → Prop) (dA : ∀ k, Decidable (A k)) (f : Nat → Int32) (g : Nat → Nat) (hg : ∀ k, g k < 2 ^ 31) (hsm : Sm M M0) (hb : BS none M0)
    (stepN : ∀ k z N, i ≤ k → k < 2 ^ D 0 1 → Sm M N → VW D N (gR M 0 3) (gR M 39 (D 7 0)) → Rel D N → ¬ (k &&& D (10 + D 7 0) 1 = 0 ∧ A k) → L (z + 1) (nI k) N = L z (nI (k + 1)) N)
    (stepS : ∀ k z N, i ≤ k → k < 2 ^ D 0 1 → Sm M N → VW D N (gR M 0 3) (gR M 39 (D 7 0)) → Rel D N → k &&& D (10 + D 7 0) 1 = 0 → A k → L (z + 1) (nI k) N = bnd (f_Best_offer (f k) (nI (g k)) N) (fun _ N2 => L z (nI (k + 1)) N2))
    (stop : ∀ z N, Sm M N → VW D N (gR M 0 3) (gR M 39 (D 7 0)) → Rel D N → L (z + 1) (nI (2 ^ D 0 1)) N = some ((), N)) :
    ∃ o M1, IB (fun s p => ∃ k, i ≤ k ∧ k < 2 ^ D 0 1 ∧ k &&& D (10 + D 7 0) 1 = 0 ∧ A k ∧ s = f k ∧ p = g k) o ∧ BS o M1 ∧ L fu (nI i) M0 = some ((), M1) ∧ Sm M M1 := by
  have h256 := p2_le h.1.2.1
  obtain ⟨o, M1, b1, b2, b3, b4⟩ := best_loop (M := M) (M0 := M0) L i (2 ^ D 0 1) (fun k => if k &&& D (10 + D 7 0) 1 = 0 ∧ A k then some (f k, g k) else none) hi (by omega) hsm hb
    (fun k z N h1 h2 hN hc => by
      have hv := h.view hN
      refine ⟨N, stepN k z N h1 h2 hN hv.1 hv.2 (fun q => ?_), Sm.rfl', fun j => rfl⟩
      rw [if_pos q] at hc; cases hc)
    (fun k z N x p h1 h2 hN hc => by
      have hv := h.view hN
      by_cases q : k &&& D (10 + D 7 0) 1 = 0 ∧ A k
      · rw [if_pos q] at hc
        cases hc
        exact ⟨hg k, N, stepS k z N h1 h2 hN hv.1 hv.2 q.1 q.2, Sm.rfl', fun j => rfl⟩
      · rw [if_neg q] at hc; cases hc)
    (fun z N hN => stop z N hN (h.view hN).1 (h.view hN).2)
  refine ⟨o, M1, b1.ext (fun s p => ⟨?_, ?_⟩), b2, b3, b4⟩
  · rintro ⟨k, k1, k2, k3⟩
    by_cases q : k &&& D (10 + D 7 0) 1 = 0 ∧ A k
    · rw [if_pos q] at k3
      cases k3
      exact ⟨k, k1, k2, q.1, q.2, rfl, rfl⟩
    · rw [if_neg q] at k3; cases k3
  · rintro ⟨k, k1, k2, k3, k4, rfl, rfl⟩
    exact ⟨k, k1, k2, if_pos ⟨k3, k4⟩⟩
/-- the reference's loop over the sets of free cords -/
theorem setsM {D : DT} {M : AM} (h : Rel D M) (L : Nat → Int32 → Int32 → AM → Option (Int32 × AM)) (i : Nat) (hi : i ≤ 1) (A : Nat → Prop) (dA : ∀ k, Decidable (A k)) (hA : i = 1 → ¬ A 0) (f : Nat → Int32)
    (stepN : ∀ k z N v, i ≤ k → k ≤ frN (D 0 1) (D (10 + D 7 0) 1) → Rel D N → ¬ (k &&& frN (D 0 1) (D (10 + D 7 0) 1) = k ∧ A k) → L (z + 1) v (nI k) N = L z v (nI (k + 1)) N)
    (step0 : ∀ k z N, i ≤ k → k ≤ frN (D 0 1) (D (10 + D 7 0) 1) → Rel D N → k &&& frN (D 0 1) (D (10 + D 7 0) 1) = k → A k → L (z + 1) (-1) (nI k) N = L z (nI k) (nI (k + 1)) N)
    (step1 : ∀ k z N p, i ≤ k → k ≤ frN (D 0 1) (D (10 + D 7 0) 1) → Rel D N → k &&& frN (D 0 1) (D (10 + D 7 0) 1) = k → A k → p < k → L (z + 1) (nI p) (nI k) N = L z (if f k < f p then nI k else nI p) (nI (k + 1)) N)
    (stop : ∀ z N v, Rel D N → L (z + 1) v (nI (frN (D 0 1) (D (10 + D 7 0) 1) + 1)) N = some (v, N)) :
    ∃ o M1, IB (SX D A f) o ∧ L fu (-1) (nI i) M = some (bp o, M1) ∧ Sm M M1 := by
  have hfr := h.fr'
  have hfr2 := h.fr
  generalize hc : (fun k => if k &&& frN (D 0 1) (D (10 + D 7 0) 1) = k ∧ A k then some (f k) else none) = cand
  have c1 : ∀ k, k &&& frN (D 0 1) (D (10 + D 7 0) 1) = k ∧ A k → cand k = some (f k) := fun k q => by rw [← hc]; exact if_pos q
  have c2 : ∀ k, ¬ (k &&& frN (D 0 1) (D (10 + D 7 0) 1) = k ∧ A k) → cand k = none := fun k q => by rw [← hc]; exact if_neg q
  have hi0 : scn cand i = none := by
    rcases (show i = 0 ∨ i = 1 by omega) with rfl | rfl
    · rfl
    · exact scn_n (k := 0) (c2 0 (fun q => hA rfl q.2))
  obtain ⟨M1, s1, s2⟩ := scan_loop (M := M) (M0 := M) L i (frN (D 0 1) (D (10 + D 7 0) 1) + 1) cand (by omega) (by omega) Sm.rfl' hi0
    (fun k z N v h1 h2 hN hk => ⟨N, stepN k z N v h1 (by omega) (h.sm hN) (fun q => by rw [c1 k q] at hk; cases hk), Sm.rfl'⟩)
    (fun k z N s h1 h2 hN hk => by
      by_cases q : k &&& frN (D 0 1) (D (10 + D 7 0) 1) = k ∧ A k
      · exact ⟨N, step0 k z N h1 (by omega) (h.sm hN) q.1 q.2, Sm.rfl'⟩
      · rw [c2 k q] at hk; cases hk)
    (fun k z N s s0 p0 h1 h2 hN hk hp hk0 => by
      by_cases q : k &&& frN (D 0 1) (D (10 + D 7 0) 1) = k ∧ A k
      · by_cases q0 : p0 &&& frN (D 0 1) (D (10 + D 7 0) 1) = p0 ∧ A p0
        · rw [c1 k q] at hk
          rw [c1 p0 q0] at hk0
          cases hk
          cases hk0
          exact ⟨N, step1 k z N p0 h1 (by omega) (h.sm hN) q.1 q.2 hp, Sm.rfl'⟩
        · rw [c2 p0 q0] at hk0; cases hk0
      · rw [c2 k q] at hk; cases hk)
    (fun z N v hN => stop z N v (h.sm hN))
  refine ⟨scn cand (frN (D 0 1) (D (10 + D 7 0) 1) + 1), M1, (scn_ok cand _).ext (fun s p => ⟨?_, ?_⟩), s1, s2⟩
  · rintro ⟨k1, k2⟩
    by_cases q : p &&& frN (D 0 1) (D (10 + D 7 0) 1) = p ∧ A p
    · rw [c1 p q] at k2
      cases k2
      have := (sub_fr h p).mp q.1
      exact ⟨this.1, this.2, q.2, rfl⟩
    · rw [c2 p q] at k2; cases k2
  · rintro ⟨k1, k2, k3, rfl⟩
    have := (sub_fr h p).mpr ⟨k1, k2⟩
    exact ⟨by have := sub_le this; omega, c1 p ⟨this, k3⟩⟩
theorem IB_none {P : Int32 → Nat → Prop} (h : ∀ s p, ¬ P s p) : IB P none := h
/-- there is always a best of some sets -/
theorem SX_ex {D : DT} (A : Nat → Prop) (dA : ∀ k, Decidable (A k)) (f : Nat → Int32) : ∃ o, IB (SX D A f) o := by
  refine ⟨scn (fun k => if k &&& D (10 + D 7 0) 1 = 0 ∧ A k then some (f k) else none) (2 ^ D 0 1), (scn_ok _ _).ext (fun s p => ⟨?_, ?_⟩)⟩
  · rintro ⟨k1, k2⟩
    by_cases q : p &&& D (10 + D 7 0) 1 = 0 ∧ A p
    · rw [if_pos q] at k2
      cases k2
      exact ⟨k1, q.1, q.2, rfl⟩
    · rw [if_neg q] at k2; cases k2
  · rintro ⟨k1, k2, k3, rfl⟩
    exact ⟨k1, if_pos ⟨k2, k3⟩⟩
/-- an answer of two: how much, or which -/
def an2 (b : Int32) (f : Nat → Int32) : Option (Int32 × Nat) → Int32
  | none => -1
  | some q => if b = 0 then f q.2 else if b = 1 then nI q.2 else -1
