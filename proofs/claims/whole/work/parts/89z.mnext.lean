/-! next, numbers, lines: the reference -/
section MX
variable {B : Nat → Nat} {z : Nat} {N : AM} {E : DT} {i : Nat}
theorem PM.near {n v : Nat} (h : PM E N) : PM (st E 2 n v) (sI N 116 n (nI v)) := by
  obtain ⟨⟨a1, a2, a3, a4, a5, a6, a7, a8, a9, a10, a11, a12, a13⟩, b, d, e⟩ := h
  have g : ∀ c k, ¬ (c = 116 ∧ k = n) → gI (sI N 116 n (nI v)) c k = gI N c k := fun c k q => by rw [gI_sI, if_neg q]
  refine ⟨⟨⟨by rw [g _ _ (by omega)]; exact a1.1, by rw [g _ _ (by omega)]; exact a1.2⟩, by rw [g _ _ (by omega)]; exact a2, by rw [g _ _ (by omega)]; exact a3, by rw [g _ _ (by omega)]; exact a4, by rw [g _ _ (by omega)]; exact a5, by rw [g _ _ (by omega)]; exact a6, by rw [g _ _ (by omega)]; exact a7, by rw [g _ _ (by omega)]; exact a8, fun q => by rw [g _ _ (by omega)]; exact a9 q, by rw [g _ _ (by omega)]; exact a10, by rw [g _ _ (by omega)]; exact a11, by rw [g _ _ (by omega)]; exact a12, by rw [g _ _ (by omega)]; exact a13⟩, fun l hl => ?_, fun m hm => by rw [g 117 m (by omega), g 118 m (by omega)]; exact d m hm, fun j hj => by rw [g 108 j (by omega), g 109 j (by omega)]; exact e j hj⟩
  obtain ⟨b1, b2, b3⟩ := b l hl
  refine ⟨b1, by rw [g 115 l (by omega)]; exact b2, ?_⟩
  by_cases el : l = n
  · rw [el, gI_sI, if_pos ⟨rfl, rfl⟩, st_at]
  · rw [g 116 l (by omega), st_co el]; exact b3
theorem mnext_ok (hz : z ≤ 1600) (hB : ∀ i, i < z → B i < 256) (h : MS B z N i E) (hO : okN E) : ∃ K, f_Mo_readNext N = some ((), K) ∧ MO B z N (sNext (byt B z) i E) K := by
  have h00 := hO.1.1
  have h256 : 2 ^ E 0 0 ≤ 2 ^ 8 := Nat.pow_le_pow_right (by decide) h00
  obtain ⟨K1, s1, s2, s3⟩ := mstep hz hB h
  unfold f_Mo_readNext sNext f_Mo_readNext_j20 f_Mo_readNext_j50 f_Mo_readNext_j55
  rw [s1, bnd_s]
  obtain ⟨v, K2, o1, o2⟩ := oldLamp_ok hz hB s2 hO
  rw [o1, bnd_s]
  rcases o2 with ⟨a, a1, rfl, hK, a4⟩ | ⟨rfl, q, q1, q2, q3⟩
  · have hK' : K1 = K2 := hK.symm
    subst hK'
    rw [a4, s2.2.2.1.1.1, if_pos rfl]
    obtain ⟨K3, t1, t2, t3⟩ := mstep hz hB s2
    rw [t1, bnd_s]
    have f3 := s3.fr.trans t3.fr
    have k2 : gI K3 105 2 = 0 := t2.2.2.1.1.1
    obtain ⟨v, K4, o3, o4⟩ := oldLamp_ok hz hB t2 hO
    rw [o3, bnd_s]
    rcases o4 with ⟨b, b1, rfl, hK, b4⟩ | ⟨rfl, q, q1, q2, q3⟩
    · have hK' : K3 = K4 := hK.symm
      subst hK'
      rw [b4, k2, if_pos rfl]
      have ht := (hO.2.1 a a1).2.2.1
      obtain ⟨K5, w1, w2, w3, w4⟩ := wrong_ok hz hB t2.1 k2 (k := 3) (by decide) (by decide)
      have w1' : f_Mo_wrong 3 K3 = some ((), K5) := w1
      have hno : ¬ gI K5 105 2 ≤ 0 := by
        rcases w2.cases with ⟨j, E', g1, -⟩ | ⟨q', g1, g2, g3, g4⟩
        · cases g1
        · exact g3
      by_cases eab : a = b
      · rw [if_pos (by rw [eab]), w1', bnd_s, if_neg hno, if_pos (Or.inl eab)]
        exact ⟨K5, rfl, w2.from f3⟩
      · rw [if_neg (fun q => eab ((nI_eq (by omega) (by omega)).mp q)), ald_nI (by omega) (by decide), (t2.2.2.2.1 a a1).2.2, has_ok (by omega) (by omega), bnd_s]
        by_cases eb : (E 2 a).testBit b = true
        · rw [if_pos eb, if_neg (by decide), w1', bnd_s, if_neg hno, if_pos (Or.inr eb)]
          exact ⟨K5, rfl, w2.from f3⟩
        · rw [if_neg eb, if_pos rfl, k2, if_pos (by decide), ald_nI (by omega) (by decide), (t2.2.2.2.1 a a1).2.2, ast_nI (by omega) (by decide), or_k (by omega), if_neg (fun q => q.elim eab eb)]
          have e2b : gI (sI K3 116 a (nI (E 2 a ||| 2 ^ b))) 116 b = nI (E 2 b) := by rw [gI_sI, if_neg (by omega)]; exact (t2.2.2.2.1 b b1).2.2
          rw [ald_nI (by omega) (by decide), e2b, ast_nI (by omega) (by decide), or_k (by omega)]
          have hm : MS B z (sI (sI K3 116 a (nI (E 2 a ||| 2 ^ b))) 116 b (nI (E 2 b ||| 2 ^ a))) (i + 2) (besd E a b) := ⟨t2.1.kp (fun a ha => by rw [gI_sI, if_neg (by omega), gI_sI, if_neg (by omega)]) rfl, t2.2.1.fr ((FR.rfl'.sI (by unfold wM; omega)).sI (by unfold wM; omega)), t2.2.2.near.near⟩
          obtain ⟨K6, u1, u2, u3⟩ := mstep hz hB hm
          rw [u1, bnd_s]
          exact ⟨K6, rfl, ((f3.sI (by unfold wM; omega)).sI (by unfold wM; omega)).trans u3.fr, u2⟩
    · rcases q2.cases with ⟨j, E', g1, -⟩ | ⟨q', g1, g2, g3, g4⟩
      · cases g1
      · rw [if_neg g2, if_neg g3, q1]
        exact ⟨K4, rfl, q2.from f3⟩
  · rcases q2.cases with ⟨j, E', g1, -⟩ | ⟨q', g1, g2, g3, g4⟩
    · cases g1
    · have ho : f_Mo_oldLamp K2 = some (0, K2) := by unfold f_Mo_oldLamp; rw [if_neg g3]
      rw [if_neg g2, ho, bnd_s, if_neg g2, if_neg g3, q1]
      exact ⟨K2, rfl, q2.from s3.fr⟩
/-- the end of a line -/
theorem mend_ok (hz : z ≤ 1600) (hB : ∀ i, i < z → B i < 256) {N0 : AM} {r : RSL} (h : MO B z N0 r N) : ∃ K, f_Mo_readLine_j216 N = some ((), K) ∧ MO B z N0 (rb r (fun j E' => sExp (byt B z) 59 j E')) K := by
  unfold f_Mo_readLine_j216 f_Mo_readLine_j237
  rcases h.cases with ⟨j, E', rfl, g2, g3⟩ | ⟨q, rfl, g2, g3, g4⟩
  · rw [rb_l, g2.2.2.1.1.1, if_pos rfl]
    unfold sExp
    by_cases e : knd (byt B z) j = 59
    · rw [if_pos ((sI6 hz hB g2.1 59 (by decide)).mpr ((srt_iff (by decide) (by decide)).mpr e)), if_pos rfl, if_pos e]
      obtain ⟨K, k1, k2, k3⟩ := mstep hz hB g2
      rw [k1, bnd_s]
      exact ⟨K, rfl, g3.trans k3.fr, k2⟩
    · rw [if_neg (fun q => e ((srt_iff (by decide) (by decide)).mp ((sI6 hz hB g2.1 59 (by decide)).mp q))), if_neg e]
      obtain ⟨K, k1, k2, -, -⟩ := wrong_ok hz hB g2.1 g2.2.2.1.1.1 (k := 2) (by decide) (by decide)
      have k1' : f_Mo_wrong 2 N = some ((), K) := k1
      rw [k1', bnd_s]
      rcases k2.cases with ⟨j, E', g1, -⟩ | ⟨q', g1, x2, x3, x4⟩
      · cases g1
      · rw [if_neg x2]
        exact ⟨K, rfl, k2.from g3⟩
  · rw [rb_r, if_neg g2, if_neg g2]
    exact ⟨N, rfl, g4⟩
end MX
