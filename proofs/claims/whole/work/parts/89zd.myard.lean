/-! the reference's memory is that yard -/
def STK (N : AM) : List Nat → Prop
  | [] => True
  | o :: S => gI N 112 S.length = nI o ∧ o < 300 ∧ STK N S
theorem STK.kp {N K : AM} : ∀ {S : List Nat}, STK N S → (∀ k, k < S.length → gI K 112 k = gI N 112 k) → STK K S := by
  intro S
  induction S with
  | nil => intro _ _; trivial
  | cons o S ih =>
    intro h g
    exact ⟨by rw [g S.length (by show S.length < S.length + 1; omega)]; exact h.1, h.2.1, ih h.2.2 (fun k hk => g k (by show k < S.length + 1; omega))⟩
def nbS : List Nat → Nat
  | [] => 0
  | o :: S => nbS S + (if o = 20 then 0 else 1)
def opS : List Nat → Nat
  | [] => 0
  | o :: S => opS S + (if o = 20 ∨ o = 21 then 0 else 1)
theorem len_S (S : List Nat) : S.length = opS S + dpt S := by
  induction S with
  | nil => rfl
  | cons o S ih =>
    show S.length + 1 = (opS S + (if o = 20 ∨ o = 21 then 0 else 1)) + (dpt S + (if o = 20 ∨ o = 21 then 1 else 0))
    split <;> omega
/-- bounds of the yard -/
def IV (u : Bool) (S : List Nat) (E : DT) : Prop := E 0 5 ≤ 30 ∧ dpt S ≤ 7 ∧ match u with
  | true => E 0 6 + nbS S ≤ 9 * E 0 5 + dpt S ∧ opS S ≤ E 0 5
  | false => E 0 6 + nbS S + 1 ≤ 9 * E 0 5 ∧ opS S + 1 ≤ E 0 5
def YS (B : Nat → Nat) (z : Nat) (N : AM) (i : Nat) (S : List Nat) (E : DT) : Prop := MS B z N i E ∧ gI N 105 17 = nI (E 0 6) ∧ gI N 105 19 = nI S.length ∧ gI N 105 22 = nI (E 0 5) ∧ STK N S ∧ E 72 3 = 1
theorem tight_ok {o : Nat} (ho : o < 300) (M : AM) : f_Mo_tight (nI o) M = some (nI (tgt o), M) := by
  have ne : ∀ c : Nat, c < 300 → ¬ o = c → ¬ nI o = (OfNat.ofNat c : Int32) := fun c hc hne q => hne ((nI_eq (by omega) (by omega)).mp q)
  by_cases h1 : o = 21
  · subst h1; rfl
  by_cases h2 : o = 38
  · subst h2; rfl
  by_cases h3 : o = 43
  · subst h3; rfl
  by_cases h4 : o = 45
  · subst h4; rfl
  by_cases h5 : o = 60
  · subst h5; rfl
  by_cases h6 : o = 61
  · subst h6; rfl
  by_cases h7 : o = 62
  · subst h7; rfl
  by_cases h8 : o = 124
  · subst h8; rfl
  have e : tgt o = 6 := by
    unfold tgt
    rw [if_neg h1, if_neg h2, if_neg (by omega), if_neg (by omega), if_neg h8]
  rw [e]
  unfold f_Mo_tight
  show (if nI o = 21 then _ else if nI o = 38 then _ else if nI o = 43 then _ else if nI o = 45 then _ else if nI o = 60 then _ else if nI o = 61 then _ else if nI o = 62 then _ else if nI o = 124 then _ else _) = _
  rw [if_neg (ne 21 (by decide) h1), if_neg (ne 38 (by decide) h2), if_neg (ne 43 (by decide) h3), if_neg (ne 45 (by decide) h4), if_neg (ne 60 (by decide) h5), if_neg (ne 61 (by decide) h6), if_neg (ne 62 (by decide) h7), if_neg (ne 124 (by decide) h8)]
  rfl
section FY
variable {B : Nat → Nat} {z : Nat} {N : AM} {E : DT} {i : Nat} {S : List Nat}
theorem PM.put {a b : Nat} (h : PM E N) : PM (putE E a b) (sI (sI (sI N 108 (E 0 6) (nI a)) 109 (E 0 6) (nI b)) 105 17 (nI (E 0 6 + 1))) := by
  obtain ⟨⟨a1, a2, a3, a4, a5, a6, a7, a8, a9, a10, a11, a12, a13⟩, b', d, e⟩ := h
  have g : ∀ c k, ¬ (c = 105 ∧ k = 17) → ¬ (c = 108 ∧ k = E 0 6) → ¬ (c = 109 ∧ k = E 0 6) → gI (sI (sI (sI N 108 (E 0 6) (nI a)) 109 (E 0 6) (nI b)) 105 17 (nI (E 0 6 + 1))) c k = gI N c k := fun c k q q2 q3 => by
    rw [gI_sI, if_neg q, gI_sI, if_neg q3, gI_sI, if_neg q2]
  have g5 : ∀ k, ¬ k = 17 → gI (sI (sI (sI N 108 (E 0 6) (nI a)) 109 (E 0 6) (nI b)) 105 17 (nI (E 0 6 + 1))) 105 k = gI N 105 k := fun k q => g 105 k (by omega) (by omega) (by omega)
  have hx : ∀ x y, ¬ (x = 5 ∨ x = 6 ∨ (x = 0 ∧ (y = 5 ∨ y = 6))) → putE E a b x y = E x y := putE_o E a b
  refine ⟨⟨⟨by rw [g5 2 (by decide)]; exact a1.1, by rw [g5 3 (by decide)]; exact a1.2⟩, by rw [g5 35 (by decide)]; exact a2, by rw [g5 36 (by decide)]; exact a3, by rw [g5 37 (by decide)]; exact a4, by rw [g5 38 (by decide)]; exact a5, by rw [g5 39 (by decide)]; exact a6, by rw [g5 40 (by decide)]; exact a7, by rw [g5 20 (by decide)]; exact a8, fun q => by rw [gI_sI, if_pos ⟨rfl, rfl⟩]; rfl, by rw [g5 24 (by decide)]; exact a10, by rw [g5 47 (by decide)]; exact a11, by rw [g5 48 (by decide)]; exact a12, by rw [g5 49 (by decide)]; exact a13⟩, fun l hl => ?_, fun c hc => ?_, fun j hj => ?_⟩
  · rw [g 115 l (by omega) (by omega) (by omega), g 116 l (by omega) (by omega) (by omega)]; exact b' l hl
  · rw [g 117 c (by omega) (by omega) (by omega), g 118 c (by omega) (by omega) (by omega)]; exact d c hc
  · rw [putE_06] at hj
    rw [putE_5, putE_6]
    by_cases el : j = E 0 6
    · rw [if_pos el, if_pos el, el]
      refine ⟨?_, ?_⟩
      · rw [gI_sI, if_neg (by omega), gI_sI, if_neg (by omega), gI_sI, if_pos ⟨rfl, rfl⟩]
      · rw [gI_sI, if_neg (by omega), gI_sI, if_pos ⟨rfl, rfl⟩]
    · rw [if_neg el, if_neg el, g 108 j (by omega) (by omega) (by omega), g 109 j (by omega) (by omega) (by omega)]
      exact e j (by omega)
/-- a step is added -/
theorem add_ok (h : YS B z N i S E) (h6 : E 0 6 < 320) (a b : Nat) : ∃ K, f_Mo_add (nI a) (nI b) N = some ((), K) ∧ YS B z K i S (putE E a b) ∧ FR N K ∧ (∀ c k, ¬ (c = 108 ∨ c = 109 ∨ (c = 105 ∧ k = 17)) → gI K c k = gI N c k) := by
  obtain ⟨⟨t1, t2, t3⟩, f1, f2, f3, f5, f6⟩ := h
  have g : ∀ c k, ¬ (c = 108 ∨ c = 109 ∨ (c = 105 ∧ k = 17)) → gI (sI (sI (sI N 108 (E 0 6) (nI a)) 109 (E 0 6) (nI b)) 105 17 (nI (E 0 6 + 1))) c k = gI N c k := fun c k q => by
    rw [gI_sI, if_neg (by omega), gI_sI, if_neg (by omega), gI_sI, if_neg (by omega)]
  have fr : FR N (sI (sI (sI N 108 (E 0 6) (nI a)) 109 (E 0 6) (nI b)) 105 17 (nI (E 0 6 + 1))) := ((FR.rfl'.sI (by unfold wM; omega)).sI (by unfold wM; omega)).sI (by unfold wM; omega)
  refine ⟨_, ?_, ⟨⟨t1.kp (fun j hj => g _ _ (by omega)) rfl, t2.fr fr, t3.put⟩, by rw [gI_sI, if_pos ⟨rfl, rfl⟩]; rfl, by rw [g _ _ (by omega)]; exact f2, by rw [g _ _ (by omega)]; exact f3, f5.kp (fun k hk => g _ _ (by omega)), f6⟩, fr, g⟩
  unfold f_Mo_add
  rw [f1, ast_nI h6 (by decide)]
  have e1 : gI (sI N 108 (E 0 6) (nI a)) 105 17 = nI (E 0 6) := by rw [gI_sI, if_neg (by omega)]; exact f1
  rw [e1, ast_nI h6 (by decide), wI_eq]
  have e2 : gI (sI (sI N 108 (E 0 6) (nI a)) 109 (E 0 6) (nI b)) 105 17 = nI (E 0 6) := by rw [gI_sI, if_neg (by omega)]; exact e1
  rw [e2, nI_1]
theorem PM.yd {k : Nat} {v : Int32} (h : PM E N) (hk : k = 19 ∨ k = 22 ∨ k = 23) : PM E (sI N 105 k v) := by
  obtain ⟨⟨a1, a2, a3, a4, a5, a6, a7, a8, a9, a10, a11, a12, a13⟩, b, d, e⟩ := h
  have g : ∀ c j, ¬ (c = 105 ∧ j = k) → gI (sI N 105 k v) c j = gI N c j := fun c j q => by rw [gI_sI, if_neg q]
  exact ⟨⟨⟨by rw [g _ _ (by omega)]; exact a1.1, by rw [g _ _ (by omega)]; exact a1.2⟩, by rw [g _ _ (by omega)]; exact a2, by rw [g _ _ (by omega)]; exact a3, by rw [g _ _ (by omega)]; exact a4, by rw [g _ _ (by omega)]; exact a5, by rw [g _ _ (by omega)]; exact a6, by rw [g _ _ (by omega)]; exact a7, by rw [g _ _ (by omega)]; exact a8, fun q => by rw [g _ _ (by omega)]; exact a9 q, by rw [g _ _ (by omega)]; exact a10, by rw [g _ _ (by omega)]; exact a11, by rw [g _ _ (by omega)]; exact a12, by rw [g _ _ (by omega)]; exact a13⟩, fun l hl => by rw [g 115 l (by omega), g 116 l (by omega)]; exact b l hl, fun c hc => by rw [g 117 c (by omega), g 118 c (by omega)]; exact d c hc, fun j hj => by rw [g 108 j (by omega), g 109 j (by omega)]; exact e j hj⟩
theorem MS.yd {k : Nat} {v : Int32} (h : MS B z N i E) (hk : k = 19 ∨ k = 22 ∨ k = 23) : MS B z (sI N 105 k v) i E := ⟨h.1.kp (fun a ha => by rw [gI_sI, if_neg (by omega)]) rfl, h.2.1.fr (FR.rfl'.sI (by unfold wM; omega)), h.2.2.yd hk⟩
/-- the top goes -/
theorem YS.low {o : Nat} (h : YS B z N i (o :: S) E) : YS B z (sI N 105 19 (nI S.length)) i S E := by
  obtain ⟨t, f1, f2, f3, f5, f6⟩ := h
  exact ⟨t.yd (Or.inl rfl), by rw [gI_sI, if_neg (by omega)]; exact f1, by rw [gI_sI, if_pos ⟨rfl, rfl⟩], by rw [gI_sI, if_neg (by omega)]; exact f3, f5.2.2.kp (fun k hk => by rw [gI_sI, if_neg (by omega)]), f6⟩
theorem YS.w23 {v : Int32} (h : YS B z N i S E) : YS B z (sI N 105 23 v) i S E := by
  obtain ⟨t, f1, f2, f3, f5, f6⟩ := h
  exact ⟨t.yd (Or.inr (Or.inr rfl)), by rw [gI_sI, if_neg (by omega)]; exact f1, by rw [gI_sI, if_neg (by omega)]; exact f2, by rw [gI_sI, if_neg (by omega)]; exact f3, f5.kp (fun k hk => by rw [gI_sI, if_neg (by omega)]), f6⟩
/-- signs that wait go, down to those that are less tight -/
theorem close_loop {t : Nat} (ht : t < 300) : ∀ S N E y, S.length ≤ 100 → S.length < y → E 0 6 + nbS S < 320 → YS B z N i S E → gI N 105 23 = nI (dpt S) → ∃ K, f_Mo_close_l0 (nI t) y N = some ((), K) ∧ YS B z K i (clo t S E).1 (clo t S E).2 ∧ gI K 105 23 = nI (dpt (clo t S E).1) ∧ FR N K := by
  intro S
  induction S with
  | nil =>
    intro N E y hl hy hn h h23
    obtain ⟨y, rfl⟩ : ∃ x, y = x + 1 := ⟨y - 1, by omega⟩
    refine ⟨N, ?_, h, h23, FR.rfl'⟩
    show f_Mo_close_b0 (f_Mo_close_l0 (nI t) y) (nI t) N = _
    unfold f_Mo_close_b0
    rw [h.2.2.1, if_pos (by decide)]
  | cons o S ih =>
    intro N E y hl hy hn h h23
    obtain ⟨y, rfl⟩ : ∃ x, y = x + 1 := ⟨y - 1, by omega⟩
    have hlen : (o :: S).length = S.length + 1 := rfl
    rw [hlen] at hl hy
    obtain ⟨o1, o2, o3⟩ := h.2.2.2.2.1
    have tg : tgt o ≤ 6 := by
      unfold tgt
      split
      · omega
      · split
        · omega
        · split
          · omega
          · split
            · omega
            · split <;> omega
    have un : f_Mo_close_l0 (nI t) (y + 1) N = f_Mo_close_b0 (f_Mo_close_l0 (nI t) y) (nI t) N := rfl
    have e19 : gI N 105 19 = nI (S.length + 1) := h.2.2.1
    rw [un, clo_c]
    unfold f_Mo_close_b0
    rw [e19, if_neg (show ¬ nI (S.length + 1) ≤ 0 from nI_ge (a := 0) (by omega) (by omega)), nI_lit 1, pk_sub (by omega), Nat.add_sub_cancel, ald_nI (by omega) (by decide), o1]
    by_cases e20 : o = 20
    · rw [if_pos (show nI o = 20 by rw [e20]; rfl), if_pos e20]
      exact ⟨N, rfl, h, h23, FR.rfl'⟩
    · rw [if_neg (show ¬ nI o = 20 from fun q => e20 ((nI_eq (b := 20) (by omega) (by decide)).mp q)), if_neg e20, ald_nI (by omega) (by decide), o1, tight_ok o2, bnd_s]
      by_cases el : tgt o < t
      · rw [if_pos (nI_lt el (by omega)), if_pos el]
        exact ⟨N, rfl, h, h23, FR.rfl'⟩
      · rw [if_neg (nI_nlt (by omega) (by omega)), if_neg el, e19, pk_sub (by omega), Nat.add_sub_cancel, wI_eq]
        have hl1 := h.low
        have g112 : gI (sI N 105 19 (nI S.length)) 112 S.length = nI o := by rw [gI_sI, if_neg (by omega)]; exact o1
        have g19 : gI (sI N 105 19 (nI S.length)) 105 19 = nI S.length := by rw [gI_sI, if_pos ⟨rfl, rfl⟩]
        have hnb : nbS (o :: S) = nbS S + 1 := by
          show nbS S + (if o = 20 then 0 else 1) = _
          rw [if_neg e20]
        have f1 : FR N (sI N 105 19 (nI S.length)) := FR.rfl'.sI (by unfold wM; omega)
        rw [g19, ald_nI (by omega) (by decide), g112]
        by_cases e21 : o = 21
        · rw [if_pos (show nI o = 21 by rw [e21]; rfl)]
          obtain ⟨K, k1, k2, k3, k4⟩ := add_ok hl1 (by omega) 2 0
          have k1' : f_Mo_add 2 0 (sI N 105 19 (nI S.length)) = some ((), K) := k1
          have hdp : dpt (o :: S) = dpt S + 1 := by
            show dpt S + (if o = 20 ∨ o = 21 then 1 else 0) = _
            rw [if_pos (Or.inr e21)]
          have k23 : gI K 105 23 = nI (dpt S + 1) := by rw [k4 105 23 (by omega), gI_sI, if_neg (by omega), h23, hdp]
          rw [k1', bnd_s, wI_eq, k23, pk_sub (by omega), Nat.add_sub_cancel]
          have ea : adp o E = putE E 2 0 := if_pos e21
          rw [ea]
          obtain ⟨K2, x1, x2, x3, x4⟩ := ih (sI K 105 23 (nI (dpt S))) (putE E 2 0) y (by omega) (by omega) (by rw [putE_06]; omega) k2.w23 (by rw [gI_sI, if_pos ⟨rfl, rfl⟩])
          exact ⟨K2, x1, x2, x3, ((f1.trans k3).sI (by unfold wM; omega)).trans x4⟩
        · rw [if_neg (show ¬ nI o = 21 from fun q => e21 ((nI_eq (b := 21) (by omega) (by decide)).mp q)), ald_nI (by omega) (by decide), g112]
          obtain ⟨K, k1, k2, k3, k4⟩ := add_ok hl1 (by omega) 3 o
          have k1' : f_Mo_add 3 (nI o) (sI N 105 19 (nI S.length)) = some ((), K) := k1
          have hdp : dpt (o :: S) = dpt S := by
            show dpt S + (if o = 20 ∨ o = 21 then 1 else 0) = _
            rw [if_neg (by omega)]; rfl
          rw [k1', bnd_s]
          have ea : adp o E = putE E 3 o := if_neg e21
          rw [ea]
          obtain ⟨K2, x1, x2, x3, x4⟩ := ih K (putE E 3 o) y (by omega) (by omega) (by rw [putE_06]; omega) k2 (by rw [k4 105 23 (by omega), gI_sI, if_neg (by omega), h23, hdp])
          exact ⟨K2, x1, x2, x3, (f1.trans k3).trans x4⟩
end FY
