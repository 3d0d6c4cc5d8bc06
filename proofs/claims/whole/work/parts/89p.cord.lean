/-! what is told stays as it can be -/
section OKN
variable {E : DT}
theorem okFm.kp (h : okFm E) {a k v : Nat} (h5 : ¬ a = 5) (h6 : ¬ a = 6) (hk : ¬ (a = 0 ∧ (k = 5 ∨ k = 6))) : okFm (st E a k v) := by
  have e5 : st E a k v 5 = E 5 := funext fun y => st_ro (fun e => h5 e.symm)
  have e6 : st E a k v 6 = E 6 := funext fun y => st_ro (fun e => h6 e.symm)
  have e05 : st E a k v 0 5 = E 0 5 := if_neg (by omega)
  have e06 : st E a k v 0 6 = E 0 6 := if_neg (by omega)
  have hh := hgt_dg e5
  obtain ⟨h1, h2, h3, h4⟩ := h
  refine ⟨by rw [e05]; exact h1, by rw [e06]; exact h2, fun q => ?_, fun i hi => ?_⟩
  · rw [hh, e06]; exact h3 (by rw [e06] at q; exact q)
  · rw [e5, e6]
    rw [e06] at hi
    exact ⟨(h4 i hi).1, fun x hx => (h4 i hi).2 x (by rw [hh] at hx; exact hx)⟩
theorem okN.lit (h : okN E) {v : Nat} (hv : v < 2 ^ E 0 0) : okN (st E 0 2 v) := by
  obtain ⟨⟨a0, a1, a2, a3, a4, a5, a6, a7, a8, a9⟩, b, d, e, g⟩ := h
  exact ⟨⟨a0, a1, hv, a3, a4, a5, a6, a7, a8, a9⟩, b, d, e, g.kp (by decide) (by decide) (by omega)⟩
theorem okN.lst (h : okN E) {v : Nat} (hv : v ≤ 8) : okN (st E 0 3 v) := by
  obtain ⟨⟨a0, a1, a2, a3, a4, a5, a6, a7, a8, a9⟩, b, d, e, g⟩ := h
  exact ⟨⟨a0, a1, a2, hv, a4, a5, a6, a7, a8, a9⟩, b, d, e, g.kp (by decide) (by decide) (by omega)⟩
theorem okN.gst (h : okN E) {v : Nat} (hv : v ≤ 100) : okN (st E 0 4 v) := by
  obtain ⟨⟨a0, a1, a2, a3, a4, a5, a6, a7, a8, a9⟩, b, d, e, g⟩ := h
  exact ⟨⟨a0, a1, a2, a3, hv, a5, a6, a7, a8, a9⟩, b, d, e, g.kp (by decide) (by decide) (by omega)⟩
theorem okN.drw (h : okN E) {v : Nat} (hv : v ≤ 999) : okN (st E 73 0 v) := by
  obtain ⟨⟨a0, a1, a2, a3, a4, a5, a6, a7, a8, a9⟩, b, d, e, g⟩ := h
  exact ⟨⟨a0, a1, a2, a3, a4, hv, a6, a7, a8, a9⟩, b, d, e, g.kp (by decide) (by decide) (by omega)⟩
theorem okN.watt (h : okN E) {n v : Nat} (hv : v ≤ 99) : okN (st E 1 n v) := by
  obtain ⟨a, b, d, e, g⟩ := h
  refine ⟨a, fun l hl => ⟨(b l hl).1, ?_, (b l hl).2.2⟩, d, e, g.kp (by decide) (by decide) (by omega)⟩
  by_cases el : l = n
  · rw [el, st_at]; exact hv
  · rw [st_co el]; exact (b l hl).2.1
theorem okN.near (h : okN E) {n v : Nat} (hv : v < 2 ^ E 0 0) (hn : v.testBit n = false) : okN (st E 2 n v) := by
  obtain ⟨a, b, d, e, g⟩ := h
  refine ⟨a, fun l hl => ⟨(b l hl).1, (b l hl).2.1, ?_, ?_, (b l hl).2.2.2.2⟩, d, e, g.kp (by decide) (by decide) (by omega)⟩
  · show st E 2 n v 2 l < 2 ^ E 0 0
    by_cases el : l = n
    · rw [el, st_at]; exact hv
    · rw [st_co el]; exact (b l hl).2.2.1
  · by_cases el : l = n
    · rw [el, st_at]; exact hn
    · rw [st_co el]; exact (b l hl).2.2.2.1
theorem okN.turn (h : okN E) {n v : Nat} (hv : v < 2 ^ E 0 0) : okN (st E 3 n v) := by
  obtain ⟨a, b, d, e, g⟩ := h
  refine ⟨a, b, fun l hl => ⟨(d l hl).1, ?_, (d l hl).2.2⟩, e, g.kp (by decide) (by decide) (by omega)⟩
  show st E 3 n v 3 l < 2 ^ E 0 0
  by_cases el : l = n
  · rw [el, st_at]; exact hv
  · rw [st_co el]; exact (d l hl).2.1
theorem okN.cost (h : okN E) {n v : Nat} (hv : v ≤ 20) : okN (st E 4 n v) := by
  obtain ⟨a, b, d, e, g⟩ := h
  refine ⟨a, b, fun l hl => ⟨(d l hl).1, (d l hl).2.1, ?_⟩, e, g.kp (by decide) (by decide) (by omega)⟩
  by_cases el : l = n
  · rw [el, st_at]; exact hv
  · rw [st_co el]; exact (d l hl).2.2
theorem okN_addL (h : okN E) {w : Nat} (h8 : E 0 0 < 8) (hw : vwd w) (hn : fdw (E 70) (E 0 0) w = none) : okN (addL E w) := by
  obtain ⟨⟨a0, a1, a2, a3, a4, a5, a6, a7, a8, a9⟩, b, d, e, g⟩ := h
  have hp : 2 ^ E 0 0 < 2 ^ (E 0 0 + 1) := Nat.pow_lt_pow_right (by decide) (by omega)
  have hx : ∀ x l, ¬ x = 0 → ¬ l = E 0 0 → addL E w x l = E x l := fun x l hx el => by
    unfold addL
    rw [st_ro hx, st_co el, st_co el, st_co el]
  have y70 : addL E w 70 (E 0 0) = w := by unfold addL; rw [st_ro (by decide), st_ro (by decide), st_ro (by decide), st_at]
  have y1 : addL E w 1 (E 0 0) = 1 := by unfold addL; rw [st_ro (by decide), st_ro (by decide), st_at]
  have y2 : addL E w 2 (E 0 0) = 0 := by unfold addL; rw [st_ro (by decide), st_at]
  have no := fdw_no hn
  refine ⟨⟨h8, a1, Nat.lt_trans a2 hp, a3, a4, a5, a6, a7, a8, a9⟩, fun l hl => ?_, fun c hc => ?_, e, ?_⟩
  · have hl' : l < E 0 0 + 1 := hl
    show _ ∧ _ ∧ addL E w 2 l < 2 ^ (E 0 0 + 1) ∧ _ ∧ ∀ l', l' < E 0 0 + 1 → _
    by_cases el : l = E 0 0
    · rw [el, y70, y1, y2]
      refine ⟨hw, by decide, Nat.pow_pos (by decide), Nat.zero_testBit _, fun l' hl2 q => ?_⟩
      by_cases el2 : l' = E 0 0
      · exact el2.symm
      · rw [hx 70 l' (by decide) el2] at q
        exact absurd q.symm (no l' (by omega))
    · rw [hx 70 l (by decide) el, hx 1 l (by decide) el, hx 2 l (by decide) el]
      obtain ⟨b1, b2, b3, b4, b5⟩ := b l (by omega)
      refine ⟨b1, b2, by omega, b4, fun l' hl2 q => ?_⟩
      by_cases el2 : l' = E 0 0
      · rw [el2, y70] at q
        exact absurd q (no l (by omega))
      · rw [hx 70 l' (by decide) el2] at q
        exact b5 l' (by omega) q
  · obtain ⟨d1, d2, d3⟩ := d c hc
    exact ⟨d1, Nat.lt_trans d2 hp, d3⟩
  · exact (((g.kp (by decide) (by decide) (by omega)).kp (by decide) (by decide) (by omega)).kp (by decide) (by decide) (by omega)).kp (by decide) (by decide) (by omega)
def addC (E : DT) (w : Nat) : DT := st (st (st (st E 71 (E 0 1) w) 3 (E 0 1) 0) 4 (E 0 1) 1) 0 1 (E 0 1 + 1)
theorem okN_addC (h : okN E) {w : Nat} (h8 : E 0 1 < 8) (hw : vwd w) : okN (addC E w) := by
  obtain ⟨⟨a0, a1, a2, a3, a4, a5, a6, a7, a8, a9⟩, b, d, e, g⟩ := h
  have hx : ∀ x l, ¬ x = 0 → ¬ l = E 0 1 → addC E w x l = E x l := fun x l hx el => by
    unfold addC
    rw [st_ro hx, st_co el, st_co el, st_co el]
  have y71 : addC E w 71 (E 0 1) = w := by unfold addC; rw [st_ro (by decide), st_ro (by decide), st_ro (by decide), st_at]
  have y3 : addC E w 3 (E 0 1) = 0 := by unfold addC; rw [st_ro (by decide), st_ro (by decide), st_at]
  have y4 : addC E w 4 (E 0 1) = 1 := by unfold addC; rw [st_ro (by decide), st_at]
  refine ⟨⟨a0, h8, a2, a3, a4, a5, a6, a7, a8, a9⟩, b, fun c hc => ?_, e, ?_⟩
  · have hc' : c < E 0 1 + 1 := hc
    show _ ∧ addC E w 3 c < 2 ^ E 0 0 ∧ _
    by_cases el : c = E 0 1
    · rw [el, y71, y3, y4]
      exact ⟨hw, Nat.pow_pos (by decide), by decide⟩
    · rw [hx 71 c (by decide) el, hx 3 c (by decide) el, hx 4 c (by decide) el]
      exact d c (by omega)
  · exact (((g.kp (by decide) (by decide) (by omega)).kp (by decide) (by decide) (by omega)).kp (by decide) (by decide) (by omega)).kp (by decide) (by decide) (by omega)
end OKN
