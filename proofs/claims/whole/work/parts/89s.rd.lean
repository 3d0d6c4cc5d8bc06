/-! the dusk, read downward: what is told, step by step -/
def lvl (k : Nat) : Nat := if k = 137 then 0 else if k = 138 then 1 else if k = 43 ∨ k = 45 then 3 else if k = 42 ∨ k = 47 ∨ k = 37 then 4 else 9
def sg (k : Nat) : Nat := if k = 137 then 124 else if k = 138 then 38 else k
abbrev rel3 (k : Nat) : Prop := k = 60 ∨ k = 62 ∨ k = 61
def putE (E : DT) (a b : Nat) : DT := st (st (st E 5 (E 0 6) a) 6 (E 0 6) b) 0 6 (E 0 6 + 1)
def loopR (f : Nat → Nat) (g : Nat → DT → RSL) (m : Nat) : Nat → Nat → DT → RSL
  | 0, i, E => .inl (i, E)
  | c + 1, i, E => if lvl (knd f i) = m then rb (g (i + 1) E) (fun j E' => loopR f g m c j (putE E' 3 (sg (knd f i)))) else .inl (i, E)
theorem loopR_s (f : Nat → Nat) (g : Nat → DT → RSL) (m c i : Nat) (E : DT) : loopR f g m (c + 1) i E = if lvl (knd f i) = m then rb (g (i + 1) E) (fun j E' => loopR f g m c j (putE E' 3 (sg (knd f i)))) else .inl (i, E) := rfl
def untE (E : DT) : DT := st E 0 5 (E 0 5 + 1)
abbrev canU (k w u : Nat) : Prop := ((140 ≤ k ∧ k ≤ 145) ∨ k = 3 ∨ (k = 40 ∧ w < 7)) ∧ u < 30
def rd (f : Nat → Nat) : Nat → Nat → Nat → Nat → DT → RSL
  | 0, _, _, i, E => .inl (i, E)
  | n + 1, m, w, i, E =>
    if m = 2 then
      (if knd f i = 139 then (if w < 7 then rb (rd f n 2 (w + 1) (i + 1) E) (fun j E' => .inl (j, putE E' 2 0)) else flt f i 2)
       else rb (rd f n 3 w i E) (fun j E' => if rel3 (knd f j) then rb (rd f n 3 w (j + 1) E') (fun j2 E2 => .inl (j2, putE E2 3 (knd f j))) else .inl (j, E')))
    else if m = 5 then
      (if canU (knd f i) w (E 0 5) then
        (if knd f i = 40 then rb (rd f n 0 (w + 1) (i + 1) (untE E)) (fun j E' => sExp f 41 j E')
         else .inl (i + 1, putE (untE E) (if knd f i = 3 then 0 else 1) (if knd f i = 3 then tkD f (plc f i) else knd f i - 140)))
       else flt f i 2)
    else rb (rd f n (m + 1) w i E) (fun j E' => loopR f (rd f n (m + 1) w) m 30 j E')
theorem rd_one (f : Nat → Nat) (n w i : Nat) (E : DT) : rd f (n + 1) 2 w i E = if knd f i = 139 then (if w < 7 then rb (rd f n 2 (w + 1) (i + 1) E) (fun j E' => .inl (j, putE E' 2 0)) else flt f i 2)
       else rb (rd f n 3 w i E) (fun j E' => if rel3 (knd f j) then rb (rd f n 3 w (j + 1) E') (fun j2 E2 => .inl (j2, putE E2 3 (knd f j))) else .inl (j, E')) := rfl
theorem rd_unit (f : Nat → Nat) (n w i : Nat) (E : DT) : rd f (n + 1) 5 w i E = if canU (knd f i) w (E 0 5) then
        (if knd f i = 40 then rb (rd f n 0 (w + 1) (i + 1) (untE E)) (fun j E' => sExp f 41 j E')
         else .inl (i + 1, putE (untE E) (if knd f i = 3 then 0 else 1) (if knd f i = 3 then tkD f (plc f i) else knd f i - 140)))
       else flt f i 2 := rfl
theorem rd_join (f : Nat → Nat) (n m w i : Nat) (E : DT) (h2 : ¬ m = 2) (h5 : ¬ m = 5) : rd f (n + 1) m w i E = rb (rd f n (m + 1) w i E) (fun j E' => loopR f (rd f n (m + 1) w) m 30 j E') := by
  show (if m = 2 then _ else if m = 5 then _ else _) = _
  rw [if_neg h2, if_neg h5]
theorem rb_in {r : RSL} {k : Nat → DT → RSL} {q : Nat × DT} (h : rb r k = .inl q) : ∃ j E', r = .inl (j, E') ∧ k j E' = .inl q := by
  match r, h with
  | .inl (j, E'), h => exact ⟨j, E', rfl, h⟩
theorem rb_l {j : Nat} {E : DT} {k : Nat → DT → RSL} : rb (.inl (j, E)) k = k j E := rfl
theorem rb_r {q : Nat × Nat} {k : Nat → DT → RSL} : rb (.inr q) k = .inr q := rfl
/-- the dusk told so far is sound, and stands so high -/
def RI (E0 E : DT) (h : Nat) : Prop := (E 0 6 ≤ 9 * E 0 5 ∧ E 0 5 ≤ 30) ∧ hgt E (E 0 6) = some h ∧ h ≤ E 0 5 ∧ (∀ k, k < E 0 6 → okStep (E 5 k) (E 6 k) ∧ ∀ h', hgt E (k + 1) = some h' → h' ≤ 30) ∧ ∀ x y, ¬ (x = 5 ∨ x = 6 ∨ (x = 0 ∧ (y = 5 ∨ y = 6))) → E x y = E0 x y
def hst (a h : Nat) : Option Nat := if a ≤ 1 then some (h + 1) else if a = 2 then (if 1 ≤ h then some h else none) else (if 2 ≤ h then some (h - 1) else none)
theorem hgt_st (D : DT) (n : Nat) {h : Nat} (q : hgt D n = some h) : hgt D (n + 1) = hst (D 5 n) h := by
  show (match hgt D n with | none => none | some h => _) = _
  rw [q]
  rfl
theorem hgt_cn {D E : DT} : ∀ n, (∀ i, i < n → D 5 i = E 5 i) → hgt D n = hgt E n := by
  intro n
  induction n with
  | zero => intro _; rfl
  | succ n ih =>
    intro h
    have h1 := ih (fun i hi => h i (by omega))
    show (match hgt D n with | none => none | some h => _) = (match hgt E n with | none => none | some h => _)
    rw [h1, h n (by omega)]
theorem putE_06 (E : DT) (a b : Nat) : putE E a b 0 6 = E 0 6 + 1 := rfl
theorem putE_05 (E : DT) (a b : Nat) : putE E a b 0 5 = E 0 5 := rfl
theorem putE_5 (E : DT) (a b k : Nat) : putE E a b 5 k = if k = E 0 6 then a else E 5 k := by
  unfold putE
  rw [st_ro (by decide), st_ro (by decide)]
  by_cases e : k = E 0 6
  · rw [e, st_at, if_pos rfl]
  · rw [st_co e, if_neg e]
theorem putE_6 (E : DT) (a b k : Nat) : putE E a b 6 k = if k = E 0 6 then b else E 6 k := by
  unfold putE
  rw [st_ro (by decide)]
  by_cases e : k = E 0 6
  · rw [e, st_at, if_pos rfl]
  · rw [st_co e, if_neg e, st_ro (by decide)]
theorem putE_o (E : DT) (a b x y : Nat) (h : ¬ (x = 5 ∨ x = 6 ∨ (x = 0 ∧ (y = 5 ∨ y = 6)))) : putE E a b x y = E x y := by
  unfold putE st
  rw [if_neg (by omega), if_neg (by omega), if_neg (by omega)]
theorem RI.put {E0 E : DT} {h h' a b : Nat} (r : RI E0 E h) (hs : hst a h = some h') (ok : okStep a b) (hp : E 0 6 + 1 ≤ 9 * E 0 5) (hh : h' ≤ E 0 5) : RI E0 (putE E a b) h' := by
  obtain ⟨⟨r1, r2⟩, r3, r4, r5, r6⟩ := r
  have low : ∀ k, k ≤ E 0 6 → hgt (putE E a b) k = hgt E k := fun k hk => hgt_cn k (fun i hi => by rw [putE_5, if_neg (by omega)])
  have top : hgt (putE E a b) (E 0 6 + 1) = some h' := by
    rw [hgt_st _ _ ((low _ (Nat.le_refl _)).trans r3), putE_5, if_pos rfl]; exact hs
  refine ⟨⟨by rw [putE_06, putE_05]; exact hp, r2⟩, top, hh, fun k hk => ?_, fun x y q => by rw [putE_o _ _ _ _ _ q]; exact r6 x y q⟩
  rw [putE_06] at hk
  rw [putE_5, putE_6]
  by_cases e : k = E 0 6
  · rw [if_pos e, if_pos e, e]
    refine ⟨ok, fun x hx => ?_⟩
    rw [top] at hx
    cases hx
    omega
  · rw [if_neg e, if_neg e, low (k + 1) (by omega)]
    exact r5 k (by omega)
theorem RI.unt {E0 E : DT} {h : Nat} (r : RI E0 E h) (hu : E 0 5 < 30) : RI E0 (untE E) h := by
  obtain ⟨⟨r1, r2⟩, r3, r4, r5, r6⟩ := r
  have e5 : untE E 5 = E 5 := rfl
  have hh := hgt_dg e5
  have e05 : untE E 0 5 = E 0 5 + 1 := rfl
  have e06 : untE E 0 6 = E 0 6 := rfl
  refine ⟨⟨by rw [e05, e06]; omega, by rw [e05]; omega⟩, by rw [hh, e06]; exact r3, by rw [e05]; omega, fun k hk => ?_, fun x y q => ?_⟩
  · exact ⟨(r5 k hk).1, fun x hx => (r5 k hk).2 x (by rw [hh] at hx; exact hx)⟩
  · unfold untE st
    rw [if_neg (by omega)]; exact r6 x y q
theorem lvl_ok {k m : Nat} (h : lvl k = m) (hm : m ≤ 4) : okStep 3 (sg k) := by
  unfold lvl at h
  unfold okStep sg
  right; right; right
  refine ⟨rfl, ?_⟩
  split at h
  · rename_i e; rw [if_pos e]; omega
  · rename_i e1
    rw [if_neg e1]
    split at h
    · rename_i e; rw [if_pos e]; omega
    · rename_i e2
      rw [if_neg e2]
      split at h
      · omega
      · split at h <;> omega
theorem loop_in {f : Nat → Nat} {g : Nat → DT → RSL} {m w : Nat} {E0 : DT} (hm : m ≤ 4) (hg : ∀ i E h j E', g i E = .inl (j, E') → RI E0 E h → RI E0 E' (h + 1) ∧ E' 0 6 + 1 + w + 9 * E 0 5 ≤ E 0 6 + 9 * E' 0 5 ∧ E 0 5 < E' 0 5 ∧ i < j) : ∀ c i E h j E', loopR f g m c i E = .inl (j, E') → RI E0 E (h + 1) → RI E0 E' (h + 1) ∧ E' 0 6 + 9 * E 0 5 ≤ E 0 6 + 9 * E' 0 5 ∧ E 0 5 ≤ E' 0 5 ∧ i ≤ j := by
  intro c
  induction c with
  | zero => intro i E h j E' q r; cases q; exact ⟨r, Nat.le_refl _, Nat.le_refl _, Nat.le_refl _⟩
  | succ c ih =>
    intro i E h j E' q r
    rw [loopR_s] at q
    by_cases e : lvl (knd f i) = m
    · rw [if_pos e] at q
      obtain ⟨j1, E1, q1, q2⟩ := rb_in q
      obtain ⟨a1, a2, a3, a4⟩ := hg (i + 1) E (h + 1) j1 E1 q1 r
      have hu := a1.2.2.1
      have hp := r.1.1
      have := RI.put (a := 3) (b := sg (knd f i)) (h' := h + 1) a1 (by unfold hst; rw [if_neg (by decide), if_neg (by decide), if_pos (by omega)]; rfl) (lvl_ok e hm) (by omega) (by omega)
      obtain ⟨b1, b2, b3, b4⟩ := ih j1 _ h j E' q2 this
      rw [putE_06, putE_05] at b2
      rw [putE_05] at b3
      exact ⟨b1, by omega, by omega, by omega⟩
    · rw [if_neg e] at q; cases q; exact ⟨r, Nat.le_refl _, Nat.le_refl _, Nat.le_refl _⟩
theorem sExp_in {f : Nat → Nat} {k i : Nat} {E : DT} {q : Nat × DT} (h : sExp f k i E = .inl q) : knd f i = k ∧ q = (i + 1, E) := by
  unfold sExp at h
  by_cases e : knd f i = k
  · rw [if_pos e] at h; cases h; exact ⟨e, rfl⟩
  · rw [if_neg e] at h; cases h
section RDI
variable {B : Nat → Nat} {z : Nat} {E0 : DT}
theorem rd_in (hz : z ≤ 1600) : ∀ n m w i E h j E', 6 * (7 - w) + (6 - m) ≤ n → m ≤ 5 → w ≤ 7 → rd (byt B z) n m w i E = .inl (j, E') → RI E0 E h → RI E0 E' (h + 1) ∧ E' 0 6 + 1 + w + 9 * E 0 5 ≤ E 0 6 + 9 * E' 0 5 ∧ E 0 5 < E' 0 5 ∧ i < j := by
  intro n
  induction n with
  | zero => intro m w i E h j E' hn hm hw; omega
  | succ n ih =>
    intro m w i E h j E' hn hm hw q r
    by_cases m2 : m = 2
    · subst m2
      rw [rd_one] at q
      by_cases e : knd (byt B z) i = 139
      · rw [if_pos e] at q
        by_cases ew : w < 7
        · rw [if_pos ew] at q
          obtain ⟨j1, E1, q1, q2⟩ := rb_in q
          obtain ⟨a1, a2, a3, a4⟩ := ih 2 (w + 1) (i + 1) E h j1 E1 (by omega) (by omega) (by omega) q1 r
          cases q2
          have hu := a1.2.2.1
          have hp := r.1.1
          refine ⟨RI.put (a := 2) (b := 0) a1 (by unfold hst; rw [if_neg (by decide), if_pos rfl, if_pos (by omega)]) (Or.inr (Or.inr (Or.inl ⟨rfl, rfl⟩))) (by omega) hu, ?_, ?_, by omega⟩
          · rw [putE_06, putE_05]; omega
          · rw [putE_05]; omega
        · rw [if_neg ew] at q; cases q
      · rw [if_neg e] at q
        obtain ⟨j1, E1, q1, q2⟩ := rb_in q
        obtain ⟨a1, a2, a3, a4⟩ := ih 3 w i E h j1 E1 (by omega) (by omega) hw q1 r
        by_cases er : rel3 (knd (byt B z) j1)
        · rw [if_pos er] at q2
          obtain ⟨j2, E2, q3, q4⟩ := rb_in q2
          obtain ⟨b1, b2, b3, b4⟩ := ih 3 w (j1 + 1) E1 (h + 1) j2 E2 (by omega) (by omega) hw q3 a1
          cases q4
          have hu := b1.2.2.1
          have hp := r.1.1
          refine ⟨RI.put (a := 3) (b := knd (byt B z) j1) b1 (by unfold hst; rw [if_neg (by decide), if_neg (by decide), if_pos (by omega)]; rfl) (Or.inr (Or.inr (Or.inr ⟨rfl, by unfold rel3 at er; omega⟩))) (by omega) (by omega), ?_, ?_, by omega⟩
          · rw [putE_06, putE_05]; omega
          · rw [putE_05]; omega
        · rw [if_neg er] at q2; cases q2
          exact ⟨a1, a2, a3, a4⟩
    · by_cases m5 : m = 5
      · subst m5
        rw [rd_unit] at q
        by_cases e : canU (knd (byt B z) i) w (E 0 5)
        · rw [if_pos e] at q
          have e' := e
          unfold canU at e'
          have ru := r.unt e'.2
          have u5 : untE E 0 5 = E 0 5 + 1 := rfl
          have u6 : untE E 0 6 = E 0 6 := rfl
          have hp := r.1.1
          have hu := r.2.2.1
          by_cases e4 : knd (byt B z) i = 40
          · rw [if_pos e4] at q
            obtain ⟨j1, E1, q1, q2⟩ := rb_in q
            obtain ⟨a1, a2, a3, a4⟩ := ih 0 (w + 1) (i + 1) (untE E) h j1 E1 (by omega) (by omega) (by omega) q1 ru
            obtain ⟨-, s2⟩ := sExp_in q2
            cases s2
            exact ⟨a1, by omega, by omega, by omega⟩
          · rw [if_neg e4] at q
            cases q
            have key : ∀ a b, a ≤ 1 → okStep a b → RI E0 (putE (untE E) a b) (h + 1) := fun a b ha hb => RI.put ru (by unfold hst; rw [if_pos ha]) hb (by omega) (by omega)
            refine ⟨?_, by rw [putE_06, putE_05]; omega, by rw [putE_05]; omega, by omega⟩
            by_cases e3 : knd (byt B z) i = 3
            · rw [if_pos e3, if_pos e3]
              exact key 0 _ (by decide) (Or.inl ⟨rfl, tkD_lt hz e3⟩)
            · rw [if_neg e3, if_neg e3]
              exact key 1 _ (by decide) (Or.inr (Or.inl ⟨rfl, by omega⟩))
        · rw [if_neg e] at q; cases q
      · rw [rd_join _ _ _ _ _ _ m2 m5] at q
        obtain ⟨j1, E1, q1, q2⟩ := rb_in q
        obtain ⟨a1, a2, a3, a4⟩ := ih (m + 1) w i E h j1 E1 (by omega) (by omega) hw q1 r
        obtain ⟨b1, b2, b3, b4⟩ := loop_in (w := w) (by omega) (fun i E h j E' x y => ih (m + 1) w i E h j E' (by omega) (by omega) hw x y) 30 j1 E1 h j E' q2 a1
        exact ⟨b1, by omega, by omega, by omega⟩
end RDI
