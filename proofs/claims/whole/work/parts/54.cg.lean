/-! what each part of the relation looks at -/
def lPL (c _k : Nat) : Prop := 8 ≤ c ∧ c ≤ 37
def lMP (c k : Nat) : Prop := (c = 105 ∧ (k = 41 ∨ k = 42 ∨ k = 43 ∨ k = 44 ∨ k = 45 ∨ k = 21 ∨ k = 18 ∨ k = 25)) ∨ c = 110 ∨ c = 111 ∨ (119 ≤ c ∧ c ≤ 122)
def lCS (c k : Nat) : Prop := (c = 38 ∧ (k = 1 ∨ k = 2)) ∨ (40 ≤ c ∧ c ≤ 80)
def lMS (c k : Nat) : Prop := (c = 105 ∧ (k = 52 ∨ k = 53)) ∨ c = 123 ∨ c = 124
def lBX (c k : Nat) : Prop := (c = 0 ∧ k = 8) ∨ (83 ≤ c ∧ c ≤ 85) ∨ c = 136 ∨ c = 137
def lTP (c k : Nat) : Prop := (c = 1 ∧ k = 1) ∨ c = 2 ∨ c = 106 ∨ (c = 105 ∧ (k = 1 ∨ k = 2 ∨ k = 3)) ∨ (c = 0 ∧ (k = 13 ∨ k = 14))
def lSG (c k : Nat) : Prop := (c = 99 ∧ (k = 6 ∨ k = 7)) ∨ (100 ≤ c ∧ c ≤ 103) ∨ (c = 105 ∧ (k = 67 ∨ k = 68)) ∨ (132 ≤ c ∧ c ≤ 135)
def lLI (c k : Nat) : Prop := (c = 92 ∧ k = 7) ∨ (c = 105 ∧ k = 59) ∨ c = 98 ∨ c = 126
def Kp (l : Nat → Nat → Prop) (M M' : AM) : Prop := ∀ c k, l c k → gI M' c k = gI M c k
/-- what is written lies in W alone; references stay -/
def Wr (W : Nat → Nat → Prop) (M M' : AM) : Prop := (∀ c k, gR M' c k = gR M c k) ∧ ∀ c k, ¬ W c k → gI M' c k = gI M c k
theorem Wr.rfl' {W : Nat → Nat → Prop} {M : AM} : Wr W M M := ⟨fun _ _ => rfl, fun _ _ _ => rfl⟩
theorem Wr.trans {W : Nat → Nat → Prop} {M M1 M2 : AM} (h : Wr W M M1) (h2 : Wr W M1 M2) : Wr W M M2 := ⟨fun c k => (h2.1 c k).trans (h.1 c k), fun c k q => (h2.2 c k q).trans (h.2 c k q)⟩
theorem Wr.sI {W : Nat → Nat → Prop} {M M1 : AM} {c k : Nat} {v : Int32} (h : Wr W M M1) (hs : W c k) : Wr W M (sI M1 c k v) := by
  refine ⟨h.1, fun a b q => ?_⟩
  rw [gI_sI, if_neg]
  · exact h.2 a b q
  · rintro ⟨rfl, rfl⟩; exact q hs
theorem Wr.mono {W W' : Nat → Nat → Prop} {M M1 : AM} (h : Wr W M M1) (hw : ∀ c k, W c k → W' c k) : Wr W' M M1 := ⟨h.1, fun c k q => h.2 c k (fun z => q (hw c k z))⟩
section CG
variable {D D' : DT} {M M' : AM}
theorem PL.cg {p : Nat} (hp : p = 8 ∨ p = 23) (h : PL D M p) (g : Kp lPL M M') : PL D M' p := by
  obtain ⟨⟨a1, a2, a3, a4, a5, a6, a7⟩, b, cc, d, e⟩ := h
  refine ⟨⟨?_, ?_, ?_, ?_, ?_, ?_, ?_⟩, fun l hl => ⟨?_, ?_, ?_⟩, fun c hc => ⟨?_, ?_⟩, fun s hs => ?_, fun i hi => ?_⟩ <;> rw [g _ _ (by unfold lPL; omega)]
  · exact a1
  · exact a2
  · exact a3
  · exact a4
  · exact a5
  · exact a6
  · exact a7
  · exact (b l hl).1
  · exact (b l hl).2.1
  · exact (b l hl).2.2
  · exact (cc _ hc).1
  · exact (cc _ hc).2
  · exact d s hs
  · exact e i hi
theorem CCH.cg {p : Nat} (hp : p = 8 ∨ p = 23) (h : CCH D M p) (g : Kp lPL M M') : CCH D M' p := by
  intro l lit near h1 h2 h3 night
  rw [g (p + 13) _ (by unfold lPL; omega), g (p + 14) _ (by unfold lPL; omega)]
  exact h l lit near h1 h2 h3 night
theorem MPL.cg (h : MPL D M) (g : Kp lMP M M') : MPL D M' := by
  obtain ⟨⟨a1, a2, a3, a4, a5, a6, a7, a8⟩, b, cc, d⟩ := h
  refine ⟨⟨?_, ?_, ?_, ?_, ?_, ?_, ?_, ?_⟩, fun l hl => ⟨?_, ?_⟩, fun c hc => ⟨?_, ?_⟩, fun i hi => ⟨?_, ?_⟩⟩ <;> rw [g _ _ (by unfold lMP; omega)]
  · exact a1
  · exact a2
  · exact a3
  · exact a4
  · exact a5
  · exact a6
  · exact a7
  · exact a8
  · exact (b l hl).1
  · exact (b l hl).2
  · exact (cc _ hc).1
  · exact (cc _ hc).2
  · exact (d i hi).1
  · exact (d i hi).2
theorem CST.cg (h : CST D M) (g : Kp lCS M M') (r : ∀ j, gR M' 39 j = gR M 39 j) (hk : D 7 1 ≤ 40) : CST D M' := by
  obtain ⟨a1, a2, a3, a4, a5⟩ := h
  refine ⟨?_, ?_, fun j hj => ?_, fun i j hi hj => ?_, fun j i hj hi => ?_⟩
  · rw [g _ _ (by unfold lCS; omega)]; exact a1
  · rw [g _ _ (by unfold lCS; omega)]; exact a2
  · rw [r]; exact a3 j hj
  · rw [r, r]; exact a4 i j hi hj
  · rw [r, g _ _ (by have := a3 j (by omega); unfold lCS; omega)]; exact a5 j i hj hi
theorem MST.cg (h : MST D M) (g : Kp lMS M M') : MST D M' := by
  obtain ⟨a1, a2, a3, a4, a5⟩ := h
  refine ⟨?_, ?_, fun i hi => ?_, fun j i hj hi => ?_, fun j i h1 h2 hi => ?_⟩ <;> rw [g _ _ (by unfold lMS; omega)]
  · exact a1
  · exact a2
  · exact a3 i hi
  · exact a4 j i hj hi
  · exact a5 j i h1 h2 hi
theorem BXS.cg (h : BXS D M) (g : Kp lBX M M') (r : ∀ j, gR M' 82 j = gR M 82 j) : BXS D M' := by
  obtain ⟨a1, a2⟩ := h
  refine ⟨by rw [g _ _ (by unfold lBX; omega)]; exact a1, fun b hb => ⟨by rw [r]; exact (a2 b hb).1, by rw [g _ _ (by unfold lBX; omega)]; exact (a2 b hb).2.1, fun h1 i hi => ⟨?_, ?_⟩⟩⟩
  · rw [g _ _ (by unfold lBX; omega)]; exact ((a2 b hb).2.2 h1 i hi).1
  · rw [g _ _ (by unfold lBX; omega)]; exact ((a2 b hb).2.2 h1 i hi).2
theorem TPE.cg (h : TPE D M) (g : Kp lTP M M') : TPE D M' := by
  obtain ⟨a1, a2, a3, a4, a5⟩ := h
  refine ⟨by rw [g _ _ (by unfold lTP; omega)]; exact a1, by rw [g _ _ (by unfold lTP; omega)]; exact a2, fun i hi => ?_, ?_, ?_⟩
  · rw [g 106 _ (by unfold lTP; omega), g 2 _ (by unfold lTP; omega)]; exact a3 i hi
  · rw [g 0 _ (by unfold lTP; omega), g 105 _ (by unfold lTP; omega)]; exact a4
  · rw [g 0 _ (by unfold lTP; omega), g 105 _ (by unfold lTP; omega)]; exact a5
theorem SGT.cg (h : SGT D M) (g : Kp lSG M M') : SGT D M' := by
  obtain ⟨a1, a2, a3, a4, a5⟩ := h
  refine ⟨by rw [g _ _ (by unfold lSG; omega)]; exact a1, by rw [g _ _ (by unfold lSG; omega)]; exact a2, by rw [g _ _ (by unfold lSG; omega)]; exact a3, by rw [g _ _ (by unfold lSG; omega)]; exact a4, fun i hi => ?_⟩
  rw [g 100 _ (by unfold lSG; omega), g 101 _ (by unfold lSG; omega), g 102 _ (by unfold lSG; omega), g 103 _ (by unfold lSG; omega), g 132 _ (by unfold lSG; omega), g 133 _ (by unfold lSG; omega), g 134 _ (by unfold lSG; omega), g 135 _ (by unfold lSG; omega)]
  exact a5 i hi
theorem LIE.cg (h : LIE D M) (g : Kp lLI M M') : LIE D M' := by
  obtain ⟨a1, a2, a3⟩ := h
  refine ⟨by rw [g _ _ (by unfold lLI; omega)]; exact a1, by rw [g _ _ (by unfold lLI; omega)]; exact a2, fun i hi => ?_⟩
  rw [g 98 _ (by unfold lLI; omega), g 126 _ (by unfold lLI; omega)]; exact a3 i hi
/-- the numbers that a part looks at -/
theorem PL.dg {p : Nat} (e : ∀ a, a ≤ 6 → D' a = D a) (h : PL D M p) : PL D' M p := by
  unfold PL at h ⊢
  rw [e 0 (by omega), e 1 (by omega), e 2 (by omega), e 3 (by omega), e 4 (by omega), e 5 (by omega), e 6 (by omega)]
  exact h
theorem MPL.dg (e : ∀ a, a ≤ 6 → D' a = D a) (h : MPL D M) : MPL D' M := by
  unfold MPL at h ⊢
  rw [e 0 (by omega), e 1 (by omega), e 2 (by omega), e 3 (by omega), e 4 (by omega), e 5 (by omega), e 6 (by omega)]
  exact h
theorem evs_dg (e5 : D' 5 = D 5) (e6 : D' 6 = D 6) (g : Nat → Int32) : ∀ n, evs D' g n = evs D g n := by
  intro n
  induction n with
  | zero => rfl
  | succ n ih => simp only [evs, ih, e5, e6]
theorem hgt_dg (e5 : D' 5 = D 5) : ∀ n, hgt D' n = hgt D n := by
  intro n
  induction n with
  | zero => rfl
  | succ n ih => simp only [hgt, ih, e5]
theorem trn_dg (e : ∀ a, a ≤ 6 → D' a = D a) (l lit near night : Nat) : trn D' l lit near night ↔ trn D l lit near night := by
  unfold trn
  have hg : gvn D' l lit near night = gvn D l lit near night := by
    funext i
    unfold gvn
    rw [e 0 (by omega), e 1 (by omega), e 3 (by omega)]
  rw [hg, evs_dg (e 5 (by omega)) (e 6 (by omega)), e 0 (by omega)]
theorem CCH.dg {p : Nat} (e : ∀ a, a ≤ 6 → D' a = D a) (h : CCH D M p) : CCH D' M p := by
  intro l lit near h1 h2 h3 night
  rw [trn_dg e]
  rw [e 0 (by omega)] at h1
  exact h l lit near h1 h2 h3 night
theorem okP.dg (e : ∀ a, a ≤ 6 → D' a = D a) (h : okP D) : okP D' := by
  unfold okP at h ⊢
  simp only [hgt_dg (e 5 (by omega))]
  rw [e 0 (by omega), e 1 (by omega), e 2 (by omega), e 3 (by omega), e 4 (by omega), e 5 (by omega), e 6 (by omega)]
  exact h
end CG
/-- a call that changes one part of the relation -/
theorem Rel.upd {D D' : DT} {M M' : AM} (h : Rel D M) (W : Nat → Nat → Prop) (hw : Wr W M M') (e : ∀ a, a ≤ 6 → D' a = D a) (hok : okSt D')
    (w1 : ∀ c k, W c k → ¬ lPL c k) (w2 : ∀ c k, W c k → ¬ lMP c k)
    (hC : CST D' M') (hM : MST D' M') (hB : BXS D' M') (hT : TPE D' M') (hS : SGT D' M') (hL : LIE D' M') : Rel D' M' := by
  obtain ⟨h1, h2, h3, h4, h5, h6, h7, h8, h9, h10, h11, h12⟩ := h
  have e3 : gR M' 0 3 = gR M 0 3 := hw.1 0 3
  have e4 : gR M' 0 4 = gR M 0 4 := hw.1 0 4
  have gp : Kp lPL M M' := fun c k q => hw.2 c k (fun z => w1 c k z q)
  have gm : Kp lMP M M' := fun c k q => hw.2 c k (fun z => w2 c k z q)
  refine ⟨h1.dg e, hok, ?_, ?_, ?_, (h6.cg gm).dg e, hC, hM, hB, hT, hS, hL⟩
  · unfold PLN; rw [e3, e4, gp 16 0 (by unfold lPL; omega), gp 31 0 (by unfold lPL; omega)]; exact h3
  · rw [e3]; exact (h4.cg h3.or gp).dg e
  · rw [e3]; exact (h5.cg h3.or gp).dg e
/-- rows of numbers -/
def rw1 (D : DT) (a : Nat) (f : Nat → Nat) : DT := fun x => if x = a then f else D x
theorem rw1_s (D : DT) (a : Nat) (f : Nat → Nat) : rw1 D a f a = f := if_pos rfl
theorem rw1_n {D : DT} {a : Nat} {f : Nat → Nat} {x : Nat} (h : x ≠ a) : rw1 D a f x = D x := if_neg h
