/-! the state as numbers: D 0 0 lamps, D 0 1 cords, D 0 2 lit, D 0 3 least, D 0 4 gusts, D 0 5 units, D 0 6 steps of the dusk; D 1 watts, D 2 next, D 3 turns, D 4 costs, D 5 and D 6 the dusk's steps; D 7 0 acts done, D 7 1 acts kept; D 8 boxes that are kept; D 9 0 bytes on the tape, D 9 1 seen, D 9 2 time, D 9 3 what lies; D (10 + j) the state behind j acts: picture, tied, spent, night, seed; D 52 the tape, D 53 lamp of a seen, D 54 lit or not, D 55 told at; D (60 + b) a box -/
abbrev DT : Type := Nat → Nat → Nat
/-- what some cords turn, each pulled once: the first n of them -/
def xt (tn : Nat → Nat) : Nat → Nat → Nat
  | 0, _ => 0
  | n + 1, s => xt tn n s ^^^ (if s.testBit n then tn n else 0)
/-- which of the first n cords turn a lamp -/
def tbf (tn : Nat → Nat) (l : Nat) : Nat → Nat
  | 0 => 0
  | n + 1 => tbf tn l n ||| ((tn n / 2 ^ l % 2) * 2 ^ n)
/-- a step of the dusk as the class holds it: kind 0 a number, 1 asked, 2 not, 3 a sign -/
def cstep (k v : Nat) : Int32 := if k = 0 then nI v else if k = 1 then -nI (140 + v) else if k = 2 then -nI 139 else if v = 124 then -nI 137 else if v = 38 then -nI 138 else -nI v
/-- the height of the stack behind the first n steps; none if there is too little -/
def hgt (D : DT) : Nat → Option Nat
  | 0 => some 0
  | n + 1 => match hgt D n with
    | none => none
    | some h => if D 5 n ≤ 1 then some (h + 1) else if D 5 n = 2 then (if 1 ≤ h then some h else none) else (if 2 ≤ h then some (h - 1) else none)
def okStep (k v : Nat) : Prop := (k = 0 ∧ v ≤ 9999) ∨ (k = 1 ∧ v ≤ 5) ∨ (k = 2 ∧ v = 0) ∨ (k = 3 ∧ (v = 43 ∨ v = 45 ∨ v = 42 ∨ v = 47 ∨ v = 37 ∨ v = 60 ∨ v = 62 ∨ v = 61 ∨ v = 38 ∨ v = 124))
/-- what is told is as it can be -/
def okP (D : DT) : Prop := D 0 0 ≤ 8 ∧ D 0 1 ≤ 8 ∧ D 0 2 < 2 ^ D 0 0 ∧ D 0 3 ≤ 8 ∧ D 0 4 ≤ 100 ∧ D 0 5 ≤ 60 ∧ (∀ l, l < D 0 0 → D 1 l ≤ 99 ∧ D 2 l < 2 ^ D 0 0 ∧ (D 2 l).testBit l = false) ∧ (∀ c, c < D 0 1 → D 3 c < 2 ^ D 0 0 ∧ D 4 c ≤ 20) ∧ D 0 6 ≤ 269 ∧ (D 0 6 ≠ 0 → hgt D (D 0 6) = some 1) ∧ (∀ i, i < D 0 6 → okStep (D 5 i) (D 6 i) ∧ ∀ h, hgt D (i + 1) = some h → h ≤ 30)
def okS5 (D : DT) (j : Nat) : Prop := D j 0 < 2 ^ D 0 0 ∧ D j 1 < 2 ^ D 0 1 ∧ D j 3 ≤ 999 ∧ D j 4 < 1000
def okSt (D : DT) : Prop := D 7 0 ≤ D 7 1 ∧ D 7 1 ≤ 40 ∧ (∀ j, j ≤ D 7 1 → okS5 D (10 + j)) ∧ (∀ b, b < 3 → D 8 b ≤ 1 ∧ (D 8 b = 1 → okS5 D (60 + b))) ∧ D 9 0 ≤ 1600 ∧ D 9 1 ≤ 30 ∧ D 9 2 ≤ 100000 ∧ D 9 3 ≤ 256 ∧ (∀ i, i < D 9 0 → D 52 i < 256) ∧ (∀ i, i < D 9 1 → D 53 i < D 0 0 ∧ D 54 i ≤ 1 ∧ D 55 i ≤ D 9 2)
/-- a plan of the class -/
def PL (D : DT) (M : AM) (p : Nat) : Prop :=
  (gI M p 0 = nI (D 0 0) ∧ gI M p 1 = nI (D 0 2) ∧ gI M p 6 = nI (D 0 1) ∧ gI M p 14 = nI (D 0 3) ∧ gI M p 15 = nI (D 0 4) ∧ gI M (p + 9) 4 = nI (D 0 5) ∧ gI M (p + 9) 1 = nI (D 0 6)) ∧
  (∀ l, l < D 0 0 → gI M (p + 2) l = nI (D 1 l) ∧ gI M (p + 4) l = nI (D 2 l) ∧ gI M (p + 3) l = nI (tbf (D 3) l (D 0 1))) ∧
  (∀ c, c < D 0 1 → gI M (p + 6) c = nI (D 3 c) ∧ gI M (p + 7) c = nI (D 4 c)) ∧
  (∀ s, s < 2 ^ D 0 1 → gI M (p + 8) s = nI (xt (D 3) (D 0 1) s)) ∧
  (∀ i, i < D 0 6 → gI M (p + 10) i = cstep (D 5 i) (D 6 i))
/-- the reference's plan -/
def MPL (D : DT) (M : AM) : Prop :=
  (gI M 105 41 = nI (D 0 0) ∧ gI M 105 43 = nI (D 0 2) ∧ gI M 105 42 = nI (D 0 1) ∧ gI M 105 44 = nI (D 0 3) ∧ gI M 105 45 = nI (D 0 4) ∧ gI M 105 21 = nI (D 0 5) ∧ gI M 105 18 = nI (D 0 6) ∧ gI M 105 25 = (if D 0 6 = 0 then 0 else 1)) ∧
  (∀ l, l < D 0 0 → gI M 119 l = nI (D 1 l) ∧ gI M 120 l = nI (D 2 l)) ∧
  (∀ c, c < D 0 1 → gI M 121 c = nI (D 3 c) ∧ gI M 122 c = nI (D 4 c)) ∧
  (∀ i, i < D 0 6 → gI M 110 i = nI (D 5 i) ∧ gI M 111 i = nI (D 6 i))
/-- states of the class: which cell holds the state behind j acts -/
def CST (D : DT) (M : AM) : Prop :=
  gI M 38 1 = nI (D 7 0) ∧ gI M 38 2 = nI (D 7 1) ∧ (∀ j, j ≤ 40 → 40 ≤ gR M 39 j ∧ gR M 39 j ≤ 80) ∧ (∀ i j, i ≤ 40 → j ≤ 40 → gR M 39 i = gR M 39 j → i = j) ∧ (∀ j i, j ≤ D 7 1 → i < 5 → gI M (gR M 39 j) i = nI (D (10 + j) i))
def MST (D : DT) (M : AM) : Prop :=
  gI M 105 52 = nI (D 7 0) ∧ gI M 105 53 = nI (D 7 1 - D 7 0) ∧ (∀ i, i < 5 → gI M 123 i = nI (D (10 + D 7 0) i)) ∧ (∀ j i, j < D 7 0 → i < 5 → gI M 124 (5 * j + i) = nI (D (10 + j) i)) ∧ (∀ j i, D 7 0 ≤ j → j < D 7 1 → i < 5 → gI M 124 (5 * j + i) = nI (D (10 + j + 1) i))
def BXS (D : DT) (M : AM) : Prop :=
  gI M 0 8 = nI (D 8 0 + 2 * D 8 1 + 4 * D 8 2) ∧ ∀ b, b < 3 → gR M 82 b = 83 + b ∧ gI M 136 b = nI (D 8 b) ∧ (D 8 b = 1 → ∀ i, i < 5 → gI M (83 + b) i = nI (D (60 + b) i) ∧ gI M 137 (5 * b + i) = nI (D (60 + b) i))
def TPE (D : DT) (M : AM) : Prop :=
  gI M 1 1 = nI (D 9 0) ∧ gI M 105 1 = nI (D 9 0) ∧ (∀ i, i < D 9 0 → gI M 106 i = nI (D 52 i) ∧ gI M 2 i = (nI (D 52 i)).toInt8.toInt32) ∧ gI M 0 13 = gI M 105 2 ∧ gI M 0 14 = gI M 105 3
def SGT (D : DT) (M : AM) : Prop :=
  gI M 99 6 = nI (D 9 1) ∧ gI M 105 67 = nI (D 9 1) ∧ gI M 99 7 = nI (D 9 2) ∧ gI M 105 68 = nI (D 9 2) ∧ (∀ i, i < D 9 1 → gI M 100 i = nI (D 53 i) ∧ gI M 132 i = nI (D 53 i) ∧ gI M 101 i = nI (D 54 i) ∧ gI M 135 i = nI (D 54 i) ∧ gI M 102 i = nI (D 55 i) ∧ gI M 133 i = nI (D 55 i) ∧ gI M 103 i = gI M 134 i)
def LIE (D : DT) (M : AM) : Prop := gI M 92 7 = nI (D 9 3) ∧ gI M 105 59 = nI (D 9 3) ∧ ∀ i, i < D 9 3 → gI M 98 i = gI M 126 i
/-- the stack behind the first n steps of the dusk, by what is given: how high, what stands there -/
def done2 (v : Nat) (x y : Int32) : Int32 := if v = 43 then x + y else if v = 45 then x - y else if v = 42 then x * y else if v = 47 then (if y = 0 then 0 else x / y) else if v = 37 then (if y = 0 then 0 else x % y) else if v = 60 then (if x < y then 1 else 0) else if v = 62 then (if y < x then 1 else 0) else if v = 61 then (if x = y then 1 else 0) else if v = 38 then (if ¬ x = 0 ∧ ¬ y = 0 then 1 else 0) else (if ¬ x = 0 ∨ ¬ y = 0 then 1 else 0)
def evs (D : DT) (g : Nat → Int32) : Nat → Nat × (Nat → Int32)
  | 0 => (0, fun _ => 0)
  | n + 1 =>
    let q := evs D g n
    if D 5 n = 0 then (q.1 + 1, fun j => if j = q.1 then nI (D 6 n) else q.2 j)
    else if D 5 n = 1 then (q.1 + 1, fun j => if j = q.1 then g (D 6 n) else q.2 j)
    else if D 5 n = 2 then (q.1, fun j => if j = q.1 - 1 then (if q.2 (q.1 - 1) = 0 then 1 else 0) else q.2 j)
    else (q.1 - 1, fun j => if j = q.1 - 2 then done2 (D 6 n) (q.2 (q.1 - 2)) (q.2 (q.1 - 1)) else q.2 j)
/-- what is given of a lamp at dusk -/
def gvn (D : DT) (l lit near night : Nat) (i : Nat) : Int32 := if i = 0 then nI lit else if i = 1 then nI near else if i = 2 then nI (pc (tbf (D 3) l (D 0 1))) else if i = 3 then nI l else if i = 4 then nI (D 1 l) else nI night
/-- does a lamp turn over of itself -/
def trn (D : DT) (l lit near night : Nat) : Prop := D 0 6 ≠ 0 ∧ 0 < (evs D (gvn D l lit near night) (D 0 6)).2 0
/-- what the class has reckoned already is right -/
def CCH (D : DT) (M : AM) (p : Nat) : Prop := ∀ l lit near, l < D 0 0 → lit ≤ 1 → near ≤ 7 → ∀ night, gI M (p + 13) ((l * 2 + lit) * 8 + near) = nI night → night < 2 ^ 31 → (gI M (p + 14) ((l * 2 + lit) * 8 + near) = 0 ∨ gI M (p + 14) ((l * 2 + lit) * 8 + near) = 1) ∧ (¬ gI M (p + 14) ((l * 2 + lit) * 8 + near) = 0 ↔ trn D l lit near night)
def PLN (M : AM) : Prop := ((gR M 0 3 = 8 ∧ gR M 0 4 = 23) ∨ (gR M 0 3 = 23 ∧ gR M 0 4 = 8)) ∧ gI M 16 0 = 0 ∧ gI M 31 0 = 0
def Rel (D : DT) (M : AM) : Prop := okP D ∧ okSt D ∧ PLN M ∧ PL D M (gR M 0 3) ∧ CCH D M (gR M 0 3) ∧ MPL D M ∧ CST D M ∧ MST D M ∧ BXS D M ∧ TPE D M ∧ SGT D M ∧ LIE D M
/-- what may change without anybody's seeing it -/
def scr (c k : Nat) : Prop := c = 81 ∨ (86 ≤ c ∧ c ≤ 91) ∨ (93 ≤ c ∧ c ≤ 97) ∨ c = 104 ∨ (c = 92 ∧ k = 4) ∨ (c = 99 ∧ (k = 4 ∨ k = 5 ∨ k = 8)) ∨ c = 113 ∨ c = 114 ∨ c = 125 ∨ (127 ≤ c ∧ c ≤ 131) ∨ (c = 105 ∧ k = 54)
def Sm (M M' : AM) : Prop := (∀ c k, gR M' c k = gR M c k) ∧ ∀ c k, ¬ scr c k → gI M' c k = gI M c k
theorem Sm.rfl' {M : AM} : Sm M M := ⟨fun _ _ => rfl, fun _ _ _ => rfl⟩
theorem Sm.trans {M M1 M2 : AM} (h : Sm M M1) (h2 : Sm M1 M2) : Sm M M2 := ⟨fun c k => (h2.1 c k).trans (h.1 c k), fun c k q => (h2.2 c k q).trans (h.2 c k q)⟩
theorem Sm.sI {M M1 : AM} {c k : Nat} {v : Int32} (h : Sm M M1) (hs : scr c k) : Sm M (sI M1 c k v) := by
  refine ⟨h.1, fun a b q => ?_⟩
  rw [gI_sI, if_neg]
  · exact h.2 a b q
  · rintro ⟨rfl, rfl⟩; exact q hs
theorem PLN.or {M : AM} (h : PLN M) : gR M 0 3 = 8 ∨ gR M 0 3 = 23 := by rcases h.1 with h | h <;> omega
theorem PLN.kd {M : AM} (h : PLN M) : kd0 (gR M 0 3) = 5 := by rcases h.or with h | h <;> rw [h] <;> decide
theorem PL.sm {D : DT} {M M' : AM} {p : Nat} (hp : p = 8 ∨ p = 23) (h : PL D M p) (hs : Sm M M') : PL D M' p := by
  obtain ⟨⟨a1, a2, a3, a4, a5, a6, a7⟩, b, cc, d, e⟩ := h
  have g : ∀ c k, ¬ scr c k → gI M' c k = gI M c k := hs.2
  refine ⟨⟨?_, ?_, ?_, ?_, ?_, ?_, ?_⟩, fun l hl => ⟨?_, ?_, ?_⟩, fun c hc => ⟨?_, ?_⟩, fun s hs => ?_, fun i hi => ?_⟩ <;> rw [g _ _ (by unfold scr; omega)]
  · exact a1
  · exact a2
  · exact a3
  · exact a4
  · exact a5
  · exact a6
  · exact a7
  · exact (b l hl).1
  · exact (b l hl).2.1
  · exact (b l hl).2.2
  · exact (cc _ hc).1
  · exact (cc _ hc).2
  · exact d s hs
  · exact e i hi
theorem CCH.sm {D : DT} {M M' : AM} {p : Nat} (hp : p = 8 ∨ p = 23) (h : CCH D M p) (hs : Sm M M') : CCH D M' p := by
  intro l lit near h1 h2 h3 night
  rw [hs.2 (p + 13) _ (by unfold scr; omega), hs.2 (p + 14) _ (by unfold scr; omega)]
  exact h l lit near h1 h2 h3 night
theorem MPL.sm {D : DT} {M M' : AM} (h : MPL D M) (hs : Sm M M') : MPL D M' := by
  have g : ∀ c k, ¬ scr c k → gI M' c k = gI M c k := hs.2
  obtain ⟨⟨a1, a2, a3, a4, a5, a6, a7, a8⟩, b, cc, d⟩ := h
  refine ⟨⟨?_, ?_, ?_, ?_, ?_, ?_, ?_, ?_⟩, fun l hl => ⟨?_, ?_⟩, fun c hc => ⟨?_, ?_⟩, fun i hi => ⟨?_, ?_⟩⟩ <;> rw [g _ _ (by unfold scr; omega)]
  · exact a1
  · exact a2
  · exact a3
  · exact a4
  · exact a5
  · exact a6
  · exact a7
  · exact a8
  · exact (b l hl).1
  · exact (b l hl).2
  · exact (cc _ hc).1
  · exact (cc _ hc).2
  · exact (d i hi).1
  · exact (d i hi).2
theorem CST.sm {D : DT} {M M' : AM} (h : CST D M) (hs : Sm M M') (hk : D 7 1 ≤ 40) : CST D M' := by
  have g : ∀ c k, ¬ scr c k → gI M' c k = gI M c k := hs.2
  obtain ⟨a1, a2, a3, a4, a5⟩ := h
  refine ⟨?_, ?_, fun j hj => ?_, fun i j hi hj => ?_, fun j i hj hi => ?_⟩
  · rw [g _ _ (by unfold scr; omega)]; exact a1
  · rw [g _ _ (by unfold scr; omega)]; exact a2
  · rw [hs.1]; exact a3 j hj
  · rw [hs.1, hs.1]; exact a4 i j hi hj
  · rw [hs.1, g _ _ (by have := a3 j (by omega); unfold scr; omega)]; exact a5 j i hj hi
theorem MST.sm {D : DT} {M M' : AM} (h : MST D M) (hs : Sm M M') : MST D M' := by
  have g : ∀ c k, ¬ scr c k → gI M' c k = gI M c k := hs.2
  obtain ⟨a1, a2, a3, a4, a5⟩ := h
  refine ⟨?_, ?_, fun i hi => ?_, fun j i hj hi => ?_, fun j i h1 h2 hi => ?_⟩ <;> rw [g _ _ (by unfold scr; omega)]
  · exact a1
  · exact a2
  · exact a3 i hi
  · exact a4 j i hj hi
  · exact a5 j i h1 h2 hi
theorem BXS.sm {D : DT} {M M' : AM} (h : BXS D M) (hs : Sm M M') : BXS D M' := by
  have g : ∀ c k, ¬ scr c k → gI M' c k = gI M c k := hs.2
  obtain ⟨a1, a2⟩ := h
  refine ⟨by rw [g _ _ (by unfold scr; omega)]; exact a1, fun b hb => ⟨by rw [hs.1]; exact (a2 b hb).1, by rw [g _ _ (by unfold scr; omega)]; exact (a2 b hb).2.1, fun h1 i hi => ⟨?_, ?_⟩⟩⟩
  · rw [g _ _ (by unfold scr; omega)]; exact ((a2 b hb).2.2 h1 i hi).1
  · rw [g _ _ (by unfold scr; omega)]; exact ((a2 b hb).2.2 h1 i hi).2
theorem TPE.sm {D : DT} {M M' : AM} (h : TPE D M) (hs : Sm M M') : TPE D M' := by
  have g : ∀ c k, ¬ scr c k → gI M' c k = gI M c k := hs.2
  obtain ⟨a1, a2, a3, a4, a5⟩ := h
  refine ⟨by rw [g _ _ (by unfold scr; omega)]; exact a1, by rw [g _ _ (by unfold scr; omega)]; exact a2, fun i hi => ?_, ?_, ?_⟩
  · rw [g 106 _ (by unfold scr; omega), g 2 _ (by unfold scr; omega)]; exact a3 i hi
  · rw [g 0 _ (by unfold scr; omega), g 105 _ (by unfold scr; omega)]; exact a4
  · rw [g 0 _ (by unfold scr; omega), g 105 _ (by unfold scr; omega)]; exact a5
theorem SGT.sm {D : DT} {M M' : AM} (h : SGT D M) (hs : Sm M M') : SGT D M' := by
  have g : ∀ c k, ¬ scr c k → gI M' c k = gI M c k := hs.2
  obtain ⟨a1, a2, a3, a4, a5⟩ := h
  refine ⟨by rw [g _ _ (by unfold scr; omega)]; exact a1, by rw [g _ _ (by unfold scr; omega)]; exact a2, by rw [g _ _ (by unfold scr; omega)]; exact a3, by rw [g _ _ (by unfold scr; omega)]; exact a4, fun i hi => ?_⟩
  rw [g 100 _ (by unfold scr; omega), g 101 _ (by unfold scr; omega), g 102 _ (by unfold scr; omega), g 103 _ (by unfold scr; omega), g 132 _ (by unfold scr; omega), g 133 _ (by unfold scr; omega), g 134 _ (by unfold scr; omega), g 135 _ (by unfold scr; omega)]
  exact a5 i hi
theorem LIE.sm {D : DT} {M M' : AM} (h : LIE D M) (hs : Sm M M') : LIE D M' := by
  have g : ∀ c k, ¬ scr c k → gI M' c k = gI M c k := hs.2
  obtain ⟨a1, a2, a3⟩ := h
  refine ⟨by rw [g _ _ (by unfold scr; omega)]; exact a1, by rw [g _ _ (by unfold scr; omega)]; exact a2, fun i hi => ?_⟩
  rw [g 98 _ (by unfold scr; omega), g 126 _ (by unfold scr; omega)]; exact a3 i hi
theorem Rel.sm {D : DT} {M M' : AM} (h : Rel D M) (hs : Sm M M') : Rel D M' := by
  obtain ⟨h1, h2, h3, h4, h5, h6, h7, h8, h9, h10, h11, h12⟩ := h
  have e3 : gR M' 0 3 = gR M 0 3 := hs.1 0 3
  have e4 : gR M' 0 4 = gR M 0 4 := hs.1 0 4
  refine ⟨h1, h2, ?_, ?_, ?_, h6.sm hs, h7.sm hs h2.2.1, h8.sm hs, h9.sm hs, h10.sm hs, h11.sm hs, h12.sm hs⟩
  · unfold PLN; rw [e3, e4, hs.2 16 0 (by unfold scr; omega), hs.2 31 0 (by unfold scr; omega)]; exact h3
  · rw [e3]; exact h4.sm h3.or hs
  · rw [e3]; exact h5.sm h3.or hs
/-- one call of both: the same answer, and the states still belong together -/
def Both {α : Type} (fC fM : AM → Option (α × AM)) : Prop := ∀ D M, Rel D M → ∃ r M1 M2 D', fC M = some (r, M1) ∧ fM M1 = some (r, M2) ∧ Rel D' M2
/-- a question: nothing is changed that anybody sees -/
theorem Both.ask {α : Type} {fC fM : AM → Option (α × AM)} (h : ∀ D M, Rel D M → ∃ r, (∃ M1, fC M = some (r, M1) ∧ Sm M M1) ∧ ∀ M1, Sm M M1 → ∃ M2, fM M1 = some (r, M2) ∧ Sm M1 M2) : Both fC fM := by
  intro D M hR
  obtain ⟨r, ⟨M1, h1, h2⟩, h3⟩ := h D M hR
  obtain ⟨M2, h4, h5⟩ := h3 M1 h2
  exact ⟨r, M1, M2, D, h1, h4, hR.sm (h2.trans h5)⟩
/-- a question whose two sides are each the same thing of D -/
theorem Both.of {α : Type} {fC fM : AM → Option (α × AM)} (ans : DT → α) (hC : ∀ D M, Rel D M → ∃ M1, fC M = some (ans D, M1) ∧ Sm M M1) (hM : ∀ D M, Rel D M → ∃ M1, fM M = some (ans D, M1) ∧ Sm M M1) : Both fC fM := by
  intro D M hR
  obtain ⟨M1, h1, h2⟩ := hC D M hR
  obtain ⟨M2, h3, h4⟩ := hM D M1 (hR.sm h2)
  exact ⟨_, M1, M2, D, h1, h3, hR.sm (h2.trans h4)⟩
