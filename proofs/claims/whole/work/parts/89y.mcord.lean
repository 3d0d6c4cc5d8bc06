/-! cords and next: the reference -/
def pc8 (t : Nat) : Nat := t % 2 + t / 2 % 2 + t / 4 % 2 + t / 8 % 2 + t / 16 % 2 + t / 32 % 2 + t / 64 % 2 + t / 128 % 2
theorem pc8_le (t : Nat) : pc8 t ≤ 8 := by unfold pc8; omega
theorem pc8_or : ∀ t, t < 256 → ∀ l, l < 8 → t.testBit l = false → pc8 (t ||| 2 ^ l) = pc8 t + 1 := by decide +kernel
section MC
variable {B : Nat → Nat} {z : Nat} {N : AM} {E : DT} {i : Nat}
theorem PM.tur {v : Int32} {c : Nat} (h : PM E N) (hc : E 0 1 ≤ c) : PM E (sI N 117 c v) := by
  obtain ⟨⟨a1, a2, a3, a4, a5, a6, a7, a8, a9, a10, a11, a12, a13⟩, b, d, e⟩ := h
  have g : ∀ x k, ¬ (x = 117 ∧ k = c) → gI (sI N 117 c v) x k = gI N x k := fun x k q => by rw [gI_sI, if_neg q]
  exact ⟨⟨⟨by rw [g _ _ (by omega)]; exact a1.1, by rw [g _ _ (by omega)]; exact a1.2⟩, by rw [g _ _ (by omega)]; exact a2, by rw [g _ _ (by omega)]; exact a3, by rw [g _ _ (by omega)]; exact a4, by rw [g _ _ (by omega)]; exact a5, by rw [g _ _ (by omega)]; exact a6, by rw [g _ _ (by omega)]; exact a7, by rw [g _ _ (by omega)]; exact a8, fun q => by rw [g _ _ (by omega)]; exact a9 q, by rw [g _ _ (by omega)]; exact a10, by rw [g _ _ (by omega)]; exact a11, by rw [g _ _ (by omega)]; exact a12, by rw [g _ _ (by omega)]; exact a13⟩, fun l hl => by rw [g 115 l (by omega), g 116 l (by omega)]; exact b l hl, fun m hm => by rw [g 117 m (by omega), g 118 m (by omega)]; exact d m hm, fun j hj => by rw [g 108 j (by omega), g 109 j (by omega)]; exact e j hj⟩
/-- a cord is being told: it turns t -/
def CS (B : Nat → Nat) (z : Nat) (N : AM) (i : Nat) (E : DT) (w t : Nat) : Prop := MS B z N i E ∧ gI N 117 (E 0 1) = nI t ∧ t < 2 ^ E 0 0 ∧ gL N 107 (8 + E 0 1) = lN w
theorem mturn_ok (hz : z ≤ 1600) (hB : ∀ i, i < z → B i < 256) {w t : Nat} (h : CS B z N i E w t) (hO : okN E) (h8 : E 0 1 < 8) : ∃ K, f_Mo_readTurned N = some ((), K) ∧ FR N K ∧ gI K 105 36 = nI (E 0 1) ∧ ((∃ l, l < E 0 0 ∧ (∀ ok, sOld (byt B z) i E ok = ok l) ∧ ((t.testBit l = false ∧ CS B z K (i + 1) E w (t ||| 2 ^ l)) ∨ (t.testBit l = true ∧ MO B z N (flt (byt B z) i 3) K))) ∨ ∃ q, (∀ ok, sOld (byt B z) i E ok = .inr q) ∧ MO B z N (.inr q) K) := by
  obtain ⟨hm, h117, ht, hw⟩ := h
  have h36 : gI N 105 36 = nI (E 0 1) := hm.2.2.1.2.2.1
  have h2 : gI N 105 2 = 0 := hm.2.2.1.1.1
  have h00 := hO.1.1
  have h256 : 2 ^ E 0 0 ≤ 2 ^ 8 := Nat.pow_le_pow_right (by decide) h00
  unfold f_Mo_readTurned f_Mo_readTurned_j33
  obtain ⟨v, K, o1, o2⟩ := oldLamp_ok hz hB hm hO
  rw [o1, bnd_s]
  rcases o2 with ⟨l, l1, rfl, hK, l4⟩ | ⟨rfl, q, q1, q2, q3⟩
  · have hK' : N = K := hK.symm
    subst hK'
    rw [h2, if_pos rfl, h36, ald_nI h8 (by decide), h117, has_ok (by omega) (by omega), bnd_s]
    by_cases eb : t.testBit l = true
    · obtain ⟨K, k1, k2, k3, k4⟩ := wrong_ok hz hB hm.1 h2 (k := 3) (by decide) (by decide)
      have k1' : f_Mo_wrong 3 N = some ((), K) := k1
      rw [if_pos eb, if_neg (by decide), k1', bnd_s]
      rcases k2.cases with ⟨j, E', g1, -⟩ | ⟨q', g1, g2, g3, g4⟩
      · cases g1
      · rw [if_neg g3]
        exact ⟨K, rfl, k2.1, by rw [k3 105 36 (by omega)]; exact h36, Or.inl ⟨l, l1, l4, Or.inr ⟨eb, k2⟩⟩⟩
    · rw [if_neg eb, if_pos rfl, h2, if_pos (by decide), h36, ald_nI h8 (by decide), h117, ast_nI h8 (by decide), or_k (by omega)]
      have hm2 : MS B z (sI N 117 (E 0 1) (nI (t ||| 2 ^ l))) i E := ⟨hm.1.kp (fun a ha => by rw [gI_sI, if_neg (by omega)]) rfl, hm.2.1.fr (FR.rfl'.sI (by unfold wM; omega)), hm.2.2.tur (Nat.le_refl _)⟩
      obtain ⟨K2, t1, t2, t3⟩ := mstep hz hB hm2
      rw [t1, bnd_s]
      refine ⟨K2, rfl, (FR.rfl'.sI (by unfold wM; omega)).trans t3.fr, t2.2.2.1.2.2.1, Or.inl ⟨l, l1, l4, Or.inl ⟨by simpa using eb, t2, ?_, or_lt ht l1, ?_⟩⟩⟩
      · rw [t3.2.1 117 (E 0 1) (by omega), gI_sI, if_pos ⟨rfl, rfl⟩]
      · rw [t3.2.2 107 (8 + E 0 1) (by omega)]; exact hw
  · rcases q2.cases with ⟨j, E', g1, -⟩ | ⟨q', g1, g2, g3, g4⟩
    · cases g1
    · rw [if_neg g2, if_neg g3]
      exact ⟨K, rfl, q2.1, by rw [q3 105 36 (by omega)]; exact h36, Or.inr ⟨q, q1, q2⟩⟩
/-- what the turning comes to -/
def TO (B : Nat → Nat) (z : Nat) (N : AM) (E : DT) (w : Nat) (r : RSL) (K : AM) : Prop := FR N K ∧ gI K 105 36 = nI (E 0 1) ∧ ((∃ j t, r = .inl (j, st (addC E w) 3 (E 0 1) t) ∧ CS B z K j E w t) ∨ ∃ q, r = .inr q ∧ MO B z N (.inr q) K)
theorem sOld_cg (f : Nat → Nat) (i : Nat) (E : DT) (w t : Nat) (ok : Nat → RSL) : sOld f i (st (addC E w) 3 (E 0 1) t) ok = sOld f i E ok := by
  have e1 : st (addC E w) 3 (E 0 1) t 70 = E 70 := by
    funext y
    unfold addC
    rw [st_ro (by decide), st_ro (by decide), st_ro (by decide), st_ro (by decide), st_ro (by decide)]
  have e2 : st (addC E w) 3 (E 0 1) t 0 0 = E 0 0 := rfl
  unfold sOld
  rw [e1, e2]
theorem mturn_loop (hz : z ≤ 1600) (hB : ∀ i, i < z → B i < 256) (hO : okN E) (h8 : E 0 1 < 8) {w : Nat} : ∀ k i N t y, k ≤ 8 → pc8 t + k = 9 → k < y → CS B z N i E w t → ∃ K, f_Mo_readCord_l39 y N = some ((), K) ∧ TO B z N E w (sTur (byt B z) (E 0 1) k i (st (addC E w) 3 (E 0 1) t)) K := by
  intro k
  induction k with
  | zero => intro i N t y hk hp; have := pc8_le t; omega
  | succ k ih =>
    intro i N t y hk hp hy h
    obtain ⟨y, rfl⟩ : ∃ x, y = x + 1 := ⟨y - 1, by omega⟩
    have h00 := hO.1.1
    have h256 : 2 ^ E 0 0 ≤ 2 ^ 8 := Nat.pow_le_pow_right (by decide) h00
    have un : f_Mo_readCord_l39 (y + 1) N = f_Mo_readCord_b39 (f_Mo_readCord_l39 y) N := rfl
    rw [un, sTur_s]
    unfold f_Mo_readCord_b39
    rw [h.1.2.2.1.1.1, if_pos rfl, isName_ok hz hB h.1.1, bnd_s]
    by_cases e : knd (byt B z) i = 2
    · rw [if_pos e, if_neg (by decide), if_neg (fun q => q.2 e), sOld_cg, st_at]
      obtain ⟨K, m1, m2, m3, m4⟩ := mturn_ok hz hB h hO h8
      rw [m1, bnd_s]
      rcases m4 with ⟨l, l1, l2, ⟨l3, l4⟩ | ⟨l3, l4⟩⟩ | ⟨q, q1, q2⟩
      · obtain ⟨K2, x1, x2, x3, x4⟩ := ih (i + 1) K (t ||| 2 ^ l) y (by omega) (by rw [pc8_or t (by have := h.2.2.1; omega) l (by omega) l3]; omega) (by omega) l4
        refine ⟨K2, x1, m2.trans x2, x3, ?_⟩
        rw [l2, if_neg (by rw [l3]; decide), st_st]
        rcases x4 with x | ⟨q, y1, y2⟩
        · exact Or.inl x
        · exact Or.inr ⟨q, y1, y2.from m2⟩
      · have stop : f_Mo_readCord_l39 y K = some ((), K) := by
          obtain ⟨y, rfl⟩ : ∃ x, y = x + 1 := ⟨y - 1, by omega⟩
          show f_Mo_readCord_b39 (f_Mo_readCord_l39 y) K = _
          unfold f_Mo_readCord_b39
          rcases l4.cases with ⟨j, E', g1, -⟩ | ⟨q', g1, g2, g3, g4⟩
          · cases g1
          · rw [if_neg g2]
        refine ⟨K, stop, m2, m3, Or.inr ⟨_, ?_, l4⟩⟩
        rw [l2, if_pos l3]; rfl
      · have stop : f_Mo_readCord_l39 y K = some ((), K) := by
          obtain ⟨y, rfl⟩ : ∃ x, y = x + 1 := ⟨y - 1, by omega⟩
          show f_Mo_readCord_b39 (f_Mo_readCord_l39 y) K = _
          unfold f_Mo_readCord_b39
          rcases q2.cases with ⟨j, E', g1, -⟩ | ⟨q', g1, g2, g3, g4⟩
          · cases g1
          · rw [if_neg g2]
        refine ⟨K, stop, m2, m3, Or.inr ⟨q, ?_, q2⟩⟩
        rw [q1]
    · rw [if_neg e, if_pos rfl, if_pos ⟨by omega, e⟩]
      exact ⟨N, rfl, FR.rfl', h.1.2.2.1.2.2.1, Or.inl ⟨i, t, rfl, h⟩⟩
theorem cord_fin {w t v : Nat} (hP : PM E N) (ht : gI N 117 (E 0 1) = nI t) (hw : gL N 107 (8 + E 0 1) = lN w) : PM (st (st (addC E w) 3 (E 0 1) t) 4 (E 0 1) v) (sI (sI N 118 (E 0 1) (nI v)) 105 36 (nI (E 0 1 + 1))) := by
  obtain ⟨⟨a1, a2, a3, a4, a5, a6, a7, a8, a9, a10, a11, a12, a13⟩, b, d, e⟩ := hP
  have g : ∀ c k, ¬ (c = 105 ∧ k = 36) → ¬ (c = 118 ∧ k = E 0 1) → gI (sI (sI N 118 (E 0 1) (nI v)) 105 36 (nI (E 0 1 + 1))) c k = gI N c k := fun c k q q2 => by
    rw [gI_sI, if_neg q, gI_sI, if_neg q2]
  refine ⟨⟨⟨by rw [g _ _ (by omega) (by omega)]; exact a1.1, by rw [g _ _ (by omega) (by omega)]; exact a1.2⟩, by rw [g _ _ (by omega) (by omega)]; exact a2, by rw [gI_sI, if_pos ⟨rfl, rfl⟩]; rfl, by rw [g _ _ (by omega) (by omega)]; exact a4, by rw [g _ _ (by omega) (by omega)]; exact a5, by rw [g _ _ (by omega) (by omega)]; exact a6, by rw [g _ _ (by omega) (by omega)]; exact a7, by rw [g _ _ (by omega) (by omega)]; exact a8, fun q => by rw [g _ _ (by omega) (by omega)]; exact a9 q, by rw [g _ _ (by omega) (by omega)]; exact a10, by rw [g _ _ (by omega) (by omega)]; exact a11, by rw [g _ _ (by omega) (by omega)]; exact a12, by rw [g _ _ (by omega) (by omega)]; exact a13⟩, fun l hl => ?_, fun c hc => ?_, fun j hj => ?_⟩
  · rw [g 115 l (by omega) (by omega), g 116 l (by omega) (by omega)]; exact b l hl
  · have hc' : c < E 0 1 + 1 := hc
    by_cases el : c = E 0 1
    · subst el
      refine ⟨?_, ?_, ?_⟩
      · show gL N 107 (8 + E 0 1) = _
        rw [st_ro (by decide), st_ro (by decide)]
        unfold addC
        rw [st_ro (by decide), st_ro (by decide), st_ro (by decide), st_at]; exact hw
      · rw [g 117 _ (by omega) (by omega), st_ro (by decide), st_at]; exact ht
      · rw [gI_sI, if_neg (by omega), gI_sI, if_pos ⟨rfl, rfl⟩, st_at]
    · have hx : ∀ x, ¬ x = 0 → st (st (addC E w) 3 (E 0 1) t) 4 (E 0 1) v x c = E x c := fun x hx => by
        rw [st_co el, st_co el]
        unfold addC
        rw [st_ro hx, st_co el, st_co el, st_co el]
      obtain ⟨b1, b2, b3⟩ := d c (by omega)
      rw [hx 71 (by decide), hx 3 (by decide), hx 4 (by decide)]
      exact ⟨b1, by rw [g 117 c (by omega) (by omega)]; exact b2, by rw [g 118 c (by omega) (by omega)]; exact b3⟩
  · rw [g 108 j (by omega) (by omega), g 109 j (by omega) (by omega)]; exact e j hj
theorem sCst_may (f : Nat → Nat) (n i : Nat) (E : DT) (h1 : E 4 n = 1) : sCst f n i E = sMay f 8 20 i (fun j v => .inl (j, st E 4 n v)) := by
  unfold sCst sMay
  by_cases e : knd f i = 136
  · rw [if_pos e, if_pos e]
  · rw [if_neg e, if_neg (show ¬ knd f i = 128 + 8 from e)]
    show Sum.inl (i, E) = Sum.inl (i, st E 4 n 1)
    rw [st_id h1]
/-- the rest of a cord's line behind the turning -/
theorem mcost_ok (hz : z ≤ 1600) (hB : ∀ i, i < z → B i < 256) (h8 : E 0 1 < 8) {w : Nat} {N0 : AM} {r : RSL} (h : TO B z N0 E w r N) : ∃ K, bnd (f_Mo_mayTell 427071599731 20 N) (fun r10 M11 => ast 8 M11 118 (gI N 105 36) r10 (fun M12 => if (gI M12 105 2) = 0 then wI M12 105 36 ((gI M12 105 36) + 1) (fun M13 => some ((), M13)) else some ((), M12))) = some ((), K) ∧ MO B z N0 (rb r (sCst (byt B z) (E 0 1))) K := by
  obtain ⟨h1, h2, h3⟩ := h
  rw [h2]
  rcases h3 with ⟨j, t, rfl, c1, c2, c3, c4⟩ | ⟨q, rfl, c1⟩
  · rw [rb_l]
    have e4 : st (addC E w) 3 (E 0 1) t 4 (E 0 1) = 1 := by
      rw [st_ro (by decide)]
      unfold addC
      rw [st_ro (by decide), st_at]
    rw [sCst_may _ _ _ _ e4]
    obtain ⟨v, K, m1, m2, m3⟩ := mayTell_ok hz hB c1 (k := 8) (most := 20) (by decide) (by decide)
    have m1' : f_Mo_mayTell 427071599731 20 N = some (v, K) := m1
    rw [m1', bnd_s, ast_nI h8 (by decide)]
    have k2 : gI (sI K 118 (E 0 1) v) 105 2 = gI K 105 2 := by rw [gI_sI, if_neg (by omega)]
    rcases m3 with ⟨j', d, x1, rfl, x3, x4⟩ | ⟨q, x1, x2⟩
    · have k36 : gI (sI K 118 (E 0 1) (nI d)) 105 36 = nI (E 0 1) := by rw [gI_sI, if_neg (by omega)]; exact x3.2.2.1.2.2.1
      rw [k2, x3.2.2.1.1.1, if_pos rfl, wI_eq, k36, nI_1, x1]
      refine ⟨_, rfl, ((h1.trans m2.fr).sI (by unfold wM; omega)).sI (by unfold wM; omega), ?_, ?_, ?_⟩
      · exact x3.1.kp (fun a ha => by rw [gI_sI, if_neg (by omega), gI_sI, if_neg (by omega)]) rfl
      · exact x3.2.1.fr ((FR.rfl'.sI (by unfold wM; omega)).sI (by unfold wM; omega))
      · exact cord_fin x3.2.2 (by rw [x4.2.1 117 (E 0 1) (by omega)]; exact c2) (by rw [x4.2.2 107 (8 + E 0 1) (by omega)]; exact c4)
    · rcases x2.cases with ⟨j, E', g1, -⟩ | ⟨q', g1, g2, g3, g4⟩
      · cases g1
      · rw [k2, if_neg g2, x1]
        obtain ⟨a, b⟩ := q
        obtain ⟨y1, y2, y3, y4⟩ := x2
        refine ⟨_, rfl, (h1.trans y1).sI (by unfold wM; omega), ?_, ?_, y4⟩
        · rw [k2]; exact y2
        · rw [gI_sI, if_neg (by omega)]; exact y3
  · rw [rb_r]
    rcases c1.cases with ⟨j, E', g1, -⟩ | ⟨q', g1, g2, g3, g4⟩
    · cases g1
    · unfold f_Mo_mayTell
      have k2 : ∀ v, gI (sI N 118 (E 0 1) v) 105 2 = gI N 105 2 := fun v => by rw [gI_sI, if_neg (by omega)]
      rw [if_neg g2, bnd_s, ast_nI h8 (by decide), k2, if_neg g2]
      obtain ⟨a, b⟩ := q
      obtain ⟨y1, y2, y3, y4⟩ := c1
      refine ⟨_, rfl, y1.sI (by unfold wM; omega), ?_, ?_, y4⟩
      · rw [k2]; exact y2
      · rw [gI_sI, if_neg (by omega)]; exact y3
theorem mcord_ok (hz : z ≤ 1600) (hB : ∀ i, i < z → B i < 256) (h : MS B z N i E) (hO : okN E) (h8 : E 0 1 < 8) : ∃ K, f_Mo_readCord N = some ((), K) ∧ MO B z N (sCord (byt B z) i E) K := by
  unfold f_Mo_readCord sCord
  rw [if_neg (show ¬ 8 ≤ E 0 1 by omega), h.2.2.1.2.2.1]
  obtain ⟨K1, n1, n2, n3⟩ := newName_ok hz hB h hO (a := 8) (n := E 0 1) (g := E 71) (Or.inr ⟨rfl, rfl, rfl⟩) h8
  have n1' : f_Mo_newName 8 (nI (E 0 1)) N = some ((), K1) := n1
  rw [n1', bnd_s]
  have skip : ∀ q, MO B z N (.inr q) K1 → f_Mo_want 500186639987 K1 = some ((), K1) ∧ ¬ gI K1 105 2 ≤ 0 := fun q hq => by
    rcases hq.cases with ⟨j, E', g1, -⟩ | ⟨q', g1, g2, g3, g4⟩
    · cases g1
    · unfold f_Mo_want
      rw [if_neg g3]
      exact ⟨rfl, g3⟩
  rcases n3 with ⟨e1, e2, e3, e4⟩ | ⟨e1, e2⟩ | ⟨e1, e2, e3⟩
  · rw [if_pos e1, if_neg (by rw [e2]; decide)]
    obtain ⟨K2, w1, w2, w3, w4, w5⟩ := want_ok hz hB e3 (k := 7) (by decide)
    have w1' : f_Mo_want 500186639987 K1 = some ((), K2) := w1
    rw [w1', bnd_s]
    by_cases et : knd (byt B z) (i + 2) = 135
    · rw [if_pos et]
      obtain ⟨s1, s2⟩ := w3 et
      rw [s1.2.2.1.1.1, if_pos (by decide), s1.2.2.1.2.2.1, ast_nI h8 (by decide)]
      have cs : CS B z (sI K2 117 (E 0 1) 0) (i + 3) E (wdf (byt B z) (i + 1)) 0 := by
        refine ⟨⟨s1.1.kp (fun a ha => by rw [gI_sI, if_neg (by omega)]) rfl, s1.2.1.fr (FR.rfl'.sI (by unfold wM; omega)), s1.2.2.tur (Nat.le_refl _)⟩, by rw [gI_sI, if_pos ⟨rfl, rfl⟩]; rfl, Nat.pow_pos (by decide), ?_⟩
        rw [gL_sI, s2.2.2 107 (8 + E 0 1) (by omega)]; exact e4
      have f3 : FR N (sI K2 117 (E 0 1) 0) := (n2.trans s2.fr).sI (by unfold wM; omega)
      have e0 : addC E (wdf (byt B z) (i + 1)) = st (addC E (wdf (byt B z) (i + 1))) 3 (E 0 1) 0 := by
        rw [st_id]
        unfold addC
        rw [st_ro (by decide), st_ro (by decide), st_at]
      rw [e0, sTur_s, if_neg (by omega), sOld_cg, st_at]
      obtain ⟨K3, m1, m2, m3, m4⟩ := mturn_ok hz hB cs hO h8
      rw [m1, bnd_s]
      have key : ∃ K4, f_Mo_readCord_l39 fu K3 = some ((), K4) ∧ TO B z N E (wdf (byt B z) (i + 1)) (sOld (byt B z) (i + 3) E (fun l => if Nat.testBit 0 l = true then flt (byt B z) (i + 3) 3 else sTur (byt B z) (E 0 1) 8 (i + 3 + 1) (st (st (addC E (wdf (byt B z) (i + 1))) 3 (E 0 1) 0) 3 (E 0 1) (0 ||| 2 ^ l)))) K4 := by
        rcases m4 with ⟨l, l1, l2, ⟨l3, l4⟩ | ⟨l3, l4⟩⟩ | ⟨q, q1, q2⟩
        · obtain ⟨K4, x1, x2, x3, x4⟩ := mturn_loop hz hB hO h8 8 (i + 3 + 1) K3 (0 ||| 2 ^ l) fu (by decide) (by rw [pc8_or 0 (by decide) l (by have := hO.1.1; omega) l3]; rfl) (by rw [fu_eq]; decide) l4
          refine ⟨K4, x1, (f3.trans m2).trans x2, x3, ?_⟩
          rw [l2, if_neg (by rw [l3]; decide), st_st]
          rcases x4 with x | ⟨q, y1, y2⟩
          · exact Or.inl x
          · exact Or.inr ⟨q, y1, y2.from (f3.trans m2)⟩
        · rw [Nat.zero_testBit] at l3; cases l3
        · have stop : f_Mo_readCord_l39 fu K3 = some ((), K3) := by
            obtain ⟨y, hy⟩ : ∃ x, fu = x + 1 := ⟨fu - 1, by rw [fu_eq]⟩
            rw [hy]
            show f_Mo_readCord_b39 (f_Mo_readCord_l39 y) K3 = _
            unfold f_Mo_readCord_b39
            rcases q2.cases with ⟨j, E', g1, -⟩ | ⟨q', g1, g2, g3, g4⟩
            · cases g1
            · rw [if_neg g2]
          exact ⟨K3, stop, f3.trans m2, m3, Or.inr ⟨q, q1 _, q2.from f3⟩⟩
      obtain ⟨K4, x1, x2⟩ := key
      rw [x1, bnd_s]
      exact mcost_ok hz hB h8 x2
    · rw [if_neg et]
      unfold sExp at w2
      rw [if_neg et] at w2
      rcases w2.cases with ⟨j, E', g1, -⟩ | ⟨q', g1, g2, g3, g4⟩
      · cases g1
      · rw [if_neg g3]
        exact ⟨K2, rfl, w2.from n2⟩
  · rw [if_neg e1]
    obtain ⟨s1, s2⟩ := skip _ e2
    rw [s1, bnd_s, if_neg s2]
    exact ⟨K1, rfl, e2⟩
  · rw [if_pos e1, if_pos e2]
    obtain ⟨s1, s2⟩ := skip _ e3
    rw [s1, bnd_s, if_neg s2]
    exact ⟨K1, rfl, e3⟩
end MC
