/-! lamps, cords, next: the reference -/
theorem st_id {E : DT} {a k v : Nat} (h : E a k = v) : st E a k v = E := by
  funext x y
  unfold st
  by_cases e : x = a ∧ y = k
  · rw [if_pos e, e.1, e.2, h]
  · rw [if_neg e]
theorem st_st {E : DT} {a k v u : Nat} : st (st E a k v) a k u = st E a k u := by
  funext x y
  unfold st
  by_cases e : x = a ∧ y = k
  · rw [if_pos e, if_pos e]
  · rw [if_neg e, if_neg e, if_neg e]
section ML
variable {B : Nat → Nat} {z : Nat} {N : AM} {E : DT} {i : Nat}
theorem MT.kp {f : Nat → Nat} {K : AM} (h : MT f N i) (g : ∀ j, j = 4 ∨ j = 6 ∨ j = 7 ∨ j = 8 → gI K 105 j = gI N 105 j) (l : gL K 105 9 = gL N 105 9) : MT f K i := by
  obtain ⟨a, b, c, d, e⟩ := h
  exact ⟨by rw [g 4 (by omega)]; exact a, by rw [g 6 (by omega)]; exact b, by rw [g 7 (by omega)]; exact c, fun q => by rw [g 8 (by omega)]; exact d q, fun q => by rw [l]; exact e q⟩
/-- the lamp is told now -/
theorem lamp_fin {w L v : Nat} (h8 : E 0 0 < 8) (hP : PM (st E 0 2 L) N) (hw : gL N 107 (E 0 0) = lN w) : PM (st (st (addL E w) 0 2 L) 1 (E 0 0) v) (sI (sI (sI N 115 (E 0 0) (nI v)) 116 (E 0 0) 0) 105 35 (nI (E 0 0 + 1))) := by
  obtain ⟨⟨a1, a2, a3, a4, a5, a6, a7, a8, a9, a10, a11, a12, a13⟩, b, d, e⟩ := hP
  have g : ∀ k, ¬ k = 35 → gI (sI (sI (sI N 115 (E 0 0) (nI v)) 116 (E 0 0) 0) 105 35 (nI (E 0 0 + 1))) 105 k = gI N 105 k := fun k q => by
    rw [gI_sI, if_neg (by omega), gI_sI, if_neg (by omega), gI_sI, if_neg (by omega)]
  have g' : ∀ c k, ¬ (c = 105 ∨ c = 115 ∨ c = 116) → gI (sI (sI (sI N 115 (E 0 0) (nI v)) 116 (E 0 0) 0) 105 35 (nI (E 0 0 + 1))) c k = gI N c k := fun c k q => by
    rw [gI_sI, if_neg (by omega), gI_sI, if_neg (by omega), gI_sI, if_neg (by omega)]
  refine ⟨⟨⟨by rw [g 2 (by decide)]; exact a1.1, by rw [g 3 (by decide)]; exact a1.2⟩, by rw [gI_sI, if_pos ⟨rfl, rfl⟩]; rfl, by rw [g 36 (by decide)]; exact a3, by rw [g 37 (by decide)]; exact a4, by rw [g 38 (by decide)]; exact a5, by rw [g 39 (by decide)]; exact a6, by rw [g 40 (by decide)]; exact a7, by rw [g 20 (by decide)]; exact a8, fun q => by rw [g 17 (by decide)]; exact a9 q, by rw [g 24 (by decide)]; exact a10, by rw [g 47 (by decide)]; exact a11, by rw [g 48 (by decide)]; exact a12, by rw [g 49 (by decide)]; exact a13⟩, fun l hl => ?_, fun c hc => ?_, fun j hj => ?_⟩
  · have hl' : l < E 0 0 + 1 := hl
    by_cases el : l = E 0 0
    · subst el
      refine ⟨?_, ?_, ?_⟩
      · show gL N 107 (E 0 0) = _
        rw [st_ro (by decide), st_ro (by decide)]
        unfold addL
        rw [st_ro (by decide), st_ro (by decide), st_ro (by decide), st_at]; exact hw
      · rw [st_at, gI_sI, if_neg (by omega), gI_sI, if_neg (by omega), gI_sI, if_pos ⟨rfl, rfl⟩]
      · rw [gI_sI, if_neg (by omega), gI_sI, if_pos ⟨rfl, rfl⟩, st_ro (by decide), st_ro (by decide)]
        unfold addL
        rw [st_ro (by decide), st_at]; rfl
    · have hx : ∀ x, ¬ x = 0 → st (st (addL E w) 0 2 L) 1 (E 0 0) v x l = E x l := fun x hx => by
        rw [st_co el, st_ro hx]
        unfold addL
        rw [st_ro hx, st_co el, st_co el, st_co el]
      obtain ⟨b1, b2, b3⟩ := b l (show l < E 0 0 by omega)
      rw [hx 70 (by decide), hx 1 (by decide), hx 2 (by decide)]
      refine ⟨b1, ?_, ?_⟩
      · rw [gI_sI, if_neg (by omega), gI_sI, if_neg (by omega), gI_sI, if_neg (by omega)]; exact b2
      · rw [gI_sI, if_neg (by omega), gI_sI, if_neg (by omega), gI_sI, if_neg (by omega)]; exact b3
  · obtain ⟨d1, d2, d3⟩ := d c hc
    exact ⟨d1, by rw [g' 117 c (by decide)]; exact d2, by rw [g' 118 c (by decide)]; exact d3⟩
  · rw [g' 108 j (by decide), g' 109 j (by decide)]; exact e j hj
theorem PM.lit {v : Nat} (h : PM E N) : PM (st E 0 2 v) (sI N 105 37 (nI v)) := by
  obtain ⟨⟨a1, a2, a3, a4, a5, a6, a7, a8, a9, a10, a11, a12, a13⟩, b, d, e⟩ := h
  have g : ∀ c k, ¬ (c = 105 ∧ k = 37) → gI (sI N 105 37 (nI v)) c k = gI N c k := fun c k q => by rw [gI_sI, if_neg q]
  exact ⟨⟨⟨by rw [g _ _ (by omega)]; exact a1.1, by rw [g _ _ (by omega)]; exact a1.2⟩, by rw [g _ _ (by omega)]; exact a2, by rw [g _ _ (by omega)]; exact a3, by rw [gI_sI, if_pos ⟨rfl, rfl⟩]; rfl, by rw [g _ _ (by omega)]; exact a5, by rw [g _ _ (by omega)]; exact a6, by rw [g _ _ (by omega)]; exact a7, by rw [g _ _ (by omega)]; exact a8, fun q => by rw [g _ _ (by omega)]; exact a9 q, by rw [g _ _ (by omega)]; exact a10, by rw [g _ _ (by omega)]; exact a11, by rw [g _ _ (by omega)]; exact a12, by rw [g _ _ (by omega)]; exact a13⟩, fun l hl => by rw [g 115 l (by omega), g 116 l (by omega)]; exact b l hl, fun c hc => by rw [g 117 c (by omega), g 118 c (by omega)]; exact d c hc, fun j hj => by rw [g 108 j (by omega), g 109 j (by omega)]; exact e j hj⟩
theorem sWat_may (f : Nat → Nat) (n i : Nat) (E : DT) (h1 : E 1 n = 1) : sWat f n i E = sMay f 16 99 i (fun j v => .inl (j, st E 1 n v)) := by
  unfold sWat sMay
  by_cases e : knd f i = 144
  · rw [if_pos e, if_pos e]
  · rw [if_neg e, if_neg (show ¬ knd f i = 128 + 16 from e)]
    show Sum.inl (i, E) = Sum.inl (i, st E 1 n 1)
    rw [st_id h1]
theorem mwat_ok (hz : z ≤ 1600) (hB : ∀ i, i < z → B i < 256) {w L : Nat} (h8 : E 0 0 < 8) (h : MS B z N i (st E 0 2 L)) (hw : gL N 107 (E 0 0) = lN w) : ∃ K, f_Mo_readLamp_j46 N = some ((), K) ∧ MO B z N (sWat (byt B z) (E 0 0) i (st (addL E w) 0 2 L)) K := by
  have h1 : st (addL E w) 0 2 L 1 (E 0 0) = 1 := by
    rw [st_ro (by decide)]
    unfold addL
    rw [st_ro (by decide), st_ro (by decide), st_at]
  have h35 : gI N 105 35 = nI (E 0 0) := h.2.2.1.2.1
  rw [sWat_may _ _ _ _ h1]
  unfold f_Mo_readLamp_j46
  obtain ⟨v, K, m1, m2, m3⟩ := mayTell_ok hz hB h (k := 16) (most := 99) (by decide) (by decide)
  have m1' : f_Mo_mayTell 512736130163 99 N = some (v, K) := m1
  rw [m1', bnd_s, h35, ast_nI h8 (by decide)]
  rcases m3 with ⟨j, d, x1, rfl, x3, x4⟩ | ⟨q, x1, x2⟩
  · have k35 : gI (sI K 115 (E 0 0) (nI d)) 105 35 = nI (E 0 0) := by rw [gI_sI, if_neg (by omega)]; exact x3.2.2.1.2.1
    have k35' : gI (sI (sI K 115 (E 0 0) (nI d)) 116 (E 0 0) 0) 105 35 = nI (E 0 0) := by rw [gI_sI, if_neg (by omega)]; exact k35
    have k2 : gI (sI (sI K 115 (E 0 0) (nI d)) 116 (E 0 0) 0) 105 2 = 0 := by rw [gI_sI, if_neg (by omega), gI_sI, if_neg (by omega)]; exact x3.2.2.1.1.1
    rw [k35, ast_nI h8 (by decide), k2, if_pos rfl, wI_eq, k35', nI_1, x1]
    refine ⟨_, rfl, ((m2.fr.sI (by unfold wM; omega)).sI (by unfold wM; omega)).sI (by unfold wM; omega), ?_, ?_, ?_⟩
    · exact x3.1.kp (fun a ha => by rw [gI_sI, if_neg (by omega), gI_sI, if_neg (by omega), gI_sI, if_neg (by omega)]) rfl
    · exact x3.2.1.fr (((FR.rfl'.sI (by unfold wM; omega)).sI (by unfold wM; omega)).sI (by unfold wM; omega))
    · exact lamp_fin h8 x3.2.2 (by rw [x4.2.2 107 (E 0 0) (by omega)]; exact hw)
  · have k35 : gI (sI K 115 (E 0 0) v) 105 35 = nI (E 0 0) := by rw [gI_sI, if_neg (by omega), m2.2 105 35 (by omega)]; exact h35
    have k2 : gI (sI (sI K 115 (E 0 0) v) 116 (E 0 0) 0) 105 2 = gI K 105 2 := by rw [gI_sI, if_neg (by omega), gI_sI, if_neg (by omega)]
    rw [k35, ast_nI h8 (by decide), k2, x1]
    rcases x2.cases with ⟨j, E', g1, -⟩ | ⟨q', g1, g2, g3, g4⟩
    · cases g1
    · rw [if_neg g2]
      obtain ⟨a, b⟩ := q
      obtain ⟨y1, y2, y3, y4⟩ := x2
      refine ⟨_, rfl, (y1.sI (by unfold wM; omega)).sI (by unfold wM; omega), ?_, ?_, y4⟩
      · rw [k2]; exact y2
      · rw [gI_sI, if_neg (by omega), gI_sI, if_neg (by omega)]; exact y3
theorem or_I2 {n a : Nat} (hn : n < 8) (ha : a < 2 ^ n) : nI a ||| ((1 : Int32) <<< (nI n &&& 31)) = nI (a + 2 ^ n) := or_I n hn a ha
theorem mlamp_ok (hz : z ≤ 1600) (hB : ∀ i, i < z → B i < 256) (h : MS B z N i E) (hO : okN E) (h8 : E 0 0 < 8) : ∃ K, f_Mo_readLamp N = some ((), K) ∧ MO B z N (sLamp (byt B z) i E) K := by
  unfold f_Mo_readLamp sLamp
  rw [if_neg (show ¬ 8 ≤ E 0 0 by omega), h.2.2.1.2.1]
  obtain ⟨K1, n1, n2, n3⟩ := newName_ok hz hB h hO (a := 0) (n := E 0 0) (g := E 70) (Or.inl ⟨rfl, rfl, rfl⟩) h8
  have n1' : f_Mo_newName 0 (nI (E 0 0)) N = some ((), K1) := n1
  rw [n1', bnd_s]
  rcases n3 with ⟨e1, e2, e3, e4⟩ | ⟨e1, e2⟩ | ⟨e1, e2, e3⟩
  · rw [Nat.zero_add] at e4
    have l0 : st E 0 2 (E 0 2) = E := st_id rfl
    have l1 : ∀ w, st (addL E w) 0 2 (E 0 2) = addL E w := fun w => st_id rfl
    have hw := isWord_ok hz hB e3.1 (k := 12) (by decide)
    have hw' : f_Mo_isWord 7104884 K1 = some (if knd (byt B z) (i + 2) = 128 + 12 then 1 else 0, K1) := hw
    rw [e3.2.2.1.1.1, if_pos (by decide), if_pos e1, if_neg (by rw [e2]; decide), hw', bnd_s]
    by_cases el : knd (byt B z) (i + 2) = 140
    · rw [if_pos el, if_neg (by decide), if_pos el, wI_eq, e3.2.2.1.2.1, e3.2.2.1.2.2.2.1, or_I2 h8 hO.1.2.2.1]
      have hm : MS B z (sI K1 105 37 (nI (E 0 2 + 2 ^ E 0 0))) (i + 2) (st E 0 2 (E 0 2 + 2 ^ E 0 0)) := ⟨e3.1.kp (fun a ha => by rw [gI_sI, if_neg (by omega)]) rfl, e3.2.1.fr (FR.rfl'.sI (by unfold wM; omega)), e3.2.2.lit⟩
      obtain ⟨K2, t1, t2, t3⟩ := mstep hz hB hm
      rw [t1, bnd_s]
      obtain ⟨K, x1, x2⟩ := mwat_ok hz hB h8 t2 (w := wdf (byt B z) (i + 1)) (by rw [t3.2.2 107 (E 0 0) (by omega)]; exact e4)
      exact ⟨K, x1, x2.from ((n2.sI (by unfold wM; omega)).trans t3.fr)⟩
    · rw [if_neg el, if_pos rfl, if_neg el]
      obtain ⟨K, x1, x2⟩ := mwat_ok hz hB h8 (L := E 0 2) (by rw [l0]; exact e3) e4
      rw [l1] at x2
      exact ⟨K, x1, x2.from n2⟩
  · rw [if_neg e1]
    rcases e2.cases with ⟨j, E', g1, -⟩ | ⟨q', g1, g2, g3, g4⟩
    · cases g1
    · rw [if_neg g3]; exact ⟨K1, rfl, e2⟩
  · rw [if_pos e1, if_pos e2]
    rcases e3.cases with ⟨j, E', g1, -⟩ | ⟨q', g1, g2, g3, g4⟩
    · cases g1
    · rw [if_neg g3]; exact ⟨K1, rfl, e3⟩
end ML
