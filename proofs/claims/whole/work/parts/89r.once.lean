/-! a cord's line, next, what is told once -/
section RO
variable {B : Nat → Nat} {z : Nat} {N : AM} {E : DT} {p i : Nat}
theorem addC_01 (E : DT) (w : Nat) : addC E w 0 1 = E 0 1 + 1 := rfl
theorem readCord_ok (hz : z ≤ 1600) (hB : ∀ i, i < z → B i < 256) (hp : p = 8 ∨ p = 23) (h : CT (byt B z) N i) (hP : PC E p N) (hO : okN E) : ∃ v K, f_Reader_readCord N = some (v, K) ∧ CO (byt B z) p N (sCord (byt B z) i E) v K := by
  unfold f_Reader_readCord sCord
  rw [hP.1.1.1, ckK_eq (kd_p hp), hP.1.2.2.2.1]
  have h88 := hO.1.2.1
  by_cases h8 : 8 ≤ E 0 1
  · obtain ⟨K, k1, k2⟩ := refuse_ok (p := p) hz hB h 2
    refine ⟨0, K, ?_, by rw [if_pos h8]; exact k2⟩
    rw [nI_lit 8, if_neg (nI_nlt (by omega) (by omega))]
    show bnd (f_Reader_refuse (nI 2) N) _ = _
    rw [k1, bnd_s]
  · rw [nI_lit 8, if_pos (nI_lt (by omega) (by omega)), if_neg h8]
    obtain ⟨K1, s1, s2, s3, s4, -⟩ := step_co hz hB hp h hP
    rw [s1, bnd_s, s2.2.1]
    by_cases e : knd (byt B z) (i + 1) = 2
    · have hw := tkW_v hz (Or.inl e) (knd_lt hz hB (i + 1))
      rw [if_pos ((kndL hz hB (i + 1) 2 (by decide)).mpr e), if_pos e, s3.1.1.1, ckK_eq (kd_p hp), s2.2.2.2.2 e, hasCordNamed_ok s3 hO hw.1, bnd_s]
      by_cases hf : (fdw (E 71) (E 0 1) (tkW (byt B z) (plc (byt B z) (i + 1)))).isSome = true
      · obtain ⟨K, k1, k2⟩ := refuse_ok (p := p) hz hB s2 3
        refine ⟨0, K, ?_, by unfold wdf; rw [if_pos hf]; exact k2.from s4⟩
        rw [if_pos hf, if_neg (by decide)]
        show bnd (f_Reader_refuse (nI 3) K1) _ = _
        rw [k1, bnd_s]
      · unfold wdf
        rw [if_neg hf, if_neg hf, if_pos rfl, s3.1.1.1, ckK_eq (kd_p hp), s2.2.2.2.2 e]
        obtain ⟨K2, t1, t2, t3, t4, t5⟩ := addCord_ok hp s3 (by omega) (tkW (byt B z) (plc (byt B z) (i + 1)))
        have c2 := s2.keep t4 t5
        obtain ⟨K3, u1, u2, u3, u4, -⟩ := step_co hz hB hp c2 t2
        rw [t1, bnd_s, u1, bnd_s]
        have f3 := (s4.trans t3).trans u4
        have hO2 := okN_addC hO (by omega) hw.1
        obtain ⟨v, K4, x1, x2⟩ := expect_ok (k := 135) hz hB hp u2 u3 (by decide)
        have x1' : f_Reader_expect 135 K3 = some (v, K4) := x1
        rw [x1', bnd_s]
        unfold sExp at x2
        by_cases e2 : knd (byt B z) (i + 2) = 135
        · rw [if_pos e2]
          rw [if_pos e2] at x2
          obtain ⟨y0, rfl, y2, y3⟩ := x2
          rw [if_neg (by decide)]
          obtain ⟨v, K5, r1, r2⟩ := readTurned_loop hz hB hp (c := E 0 1) 9 0 fu (i + 3) K4 (addC E (tkW (byt B z) (plc (byt B z) (i + 1)))) rfl (by rw [fu_eq]; decide) y2 y3 hO2 (by rw [addC_01]; omega)
          have r1' : f_Reader_readTurned (nI (E 0 1)) K4 = some (v, K5) := r1
          rw [r1', bnd_s]
          have f4 := f3.trans y0
          rcases r2.cases with ⟨j, E', g1, rfl, g3, g4, g5⟩ | ⟨q, g1, rfl, g3⟩
          · rw [g1, if_neg (by decide), g3.2.1]
            show ∃ v K, _ ∧ CO _ _ _ (sCst (byt B z) (E 0 1) j E') v K
            have f5 := f4.trans g5
            unfold sCst
            by_cases e3 : knd (byt B z) j = 136
            · rw [if_pos ((kndL hz hB j 136 (by decide)).mpr e3), if_pos e3]
              obtain ⟨K6, a1, a2, a3, a4, -⟩ := step_co hz hB hp g3 g4
              obtain ⟨v, K7, b1, b2, b3⟩ := readNumber_ok (most := 20) hz hB hp a2 a3 (by decide)
              have b1' : f_Reader_readNumber 20 K6 = some (v, K7) := b1
              rw [a1, bnd_s, b1', bnd_s]
              rcases b3 with ⟨q1, q2, rfl, q4, q5, q6⟩ | ⟨rfl, q2, q3⟩
              · refine ⟨1, sI K7 (p + 7) (E 0 1) (nI (tkD (byt B z) (plc (byt B z) (j + 1)))), ?_, ((f5.trans a4).trans b2).sI (wC_p (by decide)), ?_⟩
                · rw [if_neg (by decide), q5.1.1.1, ckK_eq (kd_p hp), ast_nI (by omega) (by decide), q6]
                · unfold sNum
                  rw [if_pos q1, if_pos q2]
                  exact ⟨rfl, q4.keep (fun c k x => by rw [gI_sI, if_neg (by omega)]) (fun _ _ _ => rfl), q5.cost hp _ _⟩
              · exact ⟨0, K7, by rw [if_pos rfl], (q2 _).from (f5.trans a4)⟩
            · rw [if_neg (fun q => e3 ((kndL hz hB j 136 (by decide)).mp q)), if_neg e3]
              exact ⟨1, K5, rfl, f5, rfl, g3, g4⟩
          · rw [g1, if_pos rfl]
            exact ⟨0, K5, rfl, g3.from f4⟩
        · rw [if_neg e2]
          rw [if_neg e2] at x2
          have hv : v = 0 := x2.2.1
          subst hv
          exact ⟨0, K4, by rw [if_pos rfl], x2.from f3⟩
    · obtain ⟨K, k1, k2⟩ := refuse_ok (p := p) hz hB s2 2
      refine ⟨0, K, ?_, by rw [if_neg e]; exact k2.from s4⟩
      rw [if_neg (fun q => e ((kndL hz hB (i + 1) 2 (by decide)).mp q))]
      show bnd (f_Reader_refuse (nI 2) K1) _ = _
      rw [k1, bnd_s]
/-- lamps that hang next to each other -/
def besd (E : DT) (a b : Nat) : DT := st (st E 2 a (E 2 a ||| 2 ^ b)) 2 b (E 2 b ||| 2 ^ a)
def sNext (f : Nat → Nat) (i : Nat) (E : DT) : RSL := sOld f (i + 1) E (fun a => sOld f (i + 2) E (fun b => if a = b ∨ (E 2 a).testBit b = true then flt f (i + 2) 3 else .inl (i + 3, besd E a b)))
theorem readNext_ok (hz : z ≤ 1600) (hB : ∀ i, i < z → B i < 256) (hp : p = 8 ∨ p = 23) (h : CT (byt B z) N i) (hP : PC E p N) (hO : okN E) : ∃ v K, f_Reader_readNext N = some (v, K) ∧ CO (byt B z) p N (sNext (byt B z) i E) v K := by
  have h00 := hO.1.1
  unfold f_Reader_readNext sNext f_Reader_readNext_j57
  obtain ⟨K1, s1, s2, s3, s4, -⟩ := step_co hz hB hp h hP
  rw [s1, bnd_s]
  obtain ⟨v, K2, k1, k2⟩ := knownLamp_ok hz hB hp s2 s3 hO
  rw [k1, bnd_s]
  rcases k2 with ⟨a, a1, rfl, rfl, a4⟩ | ⟨rfl, k3⟩
  · rw [a4, ← nI_0, if_pos (nI_le (Nat.zero_le _) (by omega))]
    obtain ⟨K3, t1, t2, t3, t4, -⟩ := step_co hz hB hp s2 s3
    rw [t1, bnd_s]
    obtain ⟨v, K4, b1, b2⟩ := knownLamp_ok hz hB hp t2 t3 hO
    rw [b1, bnd_s]
    rcases b2 with ⟨b, c1, rfl, rfl, c4⟩ | ⟨rfl, k3⟩
    · have f4 := s4.trans t4
      rw [c4, if_pos (nI_le (Nat.zero_le _) (by omega)), nI_0]
      have ht := (hO.2.1 a a1).2.2.1
      have ht2 := (hO.2.1 b c1).2.2.1
      have h256 : 2 ^ E 0 0 ≤ 2 ^ 8 := Nat.pow_le_pow_right (by decide) h00
      obtain ⟨K5, q1, q2⟩ := refuse_ok (p := p) hz hB t2 3
      have q1' : f_Reader_refuse 3 K4 = some (0, K5) := q1
      by_cases eab : a = b
      · rw [if_pos (by rw [eab]), if_pos (Or.inl eab), q1', bnd_s]
        exact ⟨0, K5, rfl, q2.from f4⟩
      · rw [if_neg (fun q => eab ((nI_eq (by omega) (by omega)).mp q)), t3.1.1.1, ckK_eq (kd_p hp), ald_nI (by omega) (by decide), (t3.2.1 a a1).2.2.2]
        by_cases eb : (E 2 a).testBit b = true
        · rw [if_neg (fun q => by rw [(bit0 (by omega) (by omega)).mp q] at eb; cases eb), if_pos (Or.inr eb), q1', bnd_s]
          exact ⟨0, K5, rfl, q2.from f4⟩
        · rw [if_pos ((bit0 (by omega) (by omega)).mpr (by simpa using eb)), if_neg (fun q => q.elim eab eb), ckK_eq (kd_p hp), ald_nI (by omega) (by decide), (t3.2.1 a a1).2.2.2, ast_nI (by omega) (by decide), or_k (by omega)]
          have hP2 := t3.near hp (E 2 a ||| 2 ^ b) a
          have e2b : st E 2 a (E 2 a ||| 2 ^ b) 2 b = E 2 b := st_co (fun q => eab q.symm)
          have c2 : CT (byt B z) (sI K4 (p + 4) a (nI (E 2 a ||| 2 ^ b))) (i + 2) := t2.keep (fun a b x => by rw [gI_sI, if_neg (by omega)]) (fun _ _ _ => rfl)
          rw [hP2.1.1.1, ckK_eq (kd_p hp), ald_nI (by omega) (by decide), (hP2.2.1 b c1).2.2.2, e2b, ast_nI (by omega) (by decide), or_k (by omega)]
          have hP3 := hP2.near hp (E 2 b ||| 2 ^ a) b
          have c3 : CT (byt B z) (sI (sI K4 (p + 4) a (nI (E 2 a ||| 2 ^ b))) (p + 4) b (nI (E 2 b ||| 2 ^ a))) (i + 2) := c2.keep (fun a b x => by rw [gI_sI, if_neg (by omega)]) (fun _ _ _ => rfl)
          obtain ⟨K6, u1, u2, u3, u4, -⟩ := step_co hz hB hp c3 hP3
          rw [u1, bnd_s]
          exact ⟨1, K6, rfl, ((f4.sI (wC_p (by decide))).sI (wC_p (by decide))).trans u4, rfl, u2, u3⟩
    · rw [if_neg (by decide)]
      exact ⟨0, K4, rfl, (k3 _).from (s4.trans t4)⟩
  · rw [if_neg (by decide)]
    exact ⟨0, K2, rfl, (k3 _).from s4⟩
/-- what is told but once -/
def fl4 (k a b c d : Nat) : Nat := if k = 3 then a else if k = 4 then b else if k = 5 then c else d
theorem onc_a : ∀ a, a < 2 → ∀ b, b < 2 → ∀ c, c < 2 → ∀ d, d < 2 → ∀ k, k < 4 → ((nI (8 * a + 16 * b + 32 * c + 64 * d) &&& ((1 : Int32) <<< ((nI (131 + k) - 128) &&& 31)) = 0) ↔ fl4 (k + 3) a b c d = 0) := by decide +kernel
theorem onc_b : ∀ a, a < 2 → ∀ b, b < 2 → ∀ c, c < 2 → ∀ d, d < 2 → ∀ k, k < 4 → (nI (8 * a + 16 * b + 32 * c + 64 * d) ||| ((1 : Int32) <<< ((nI (131 + k) - 128) &&& 31))) = nI (8 * (if k = 0 then 1 else a) + 16 * (if k = 1 then 1 else b) + 32 * (if k = 2 then 1 else c) + 64 * (if k = 3 then 1 else d)) := by decide +kernel
theorem onc_I {a b c d k : Nat} (ha : a < 2) (hb : b < 2) (hc : c < 2) (hd : d < 2) (hk : k < 7) (h3 : 3 ≤ k) : ((nI (8 * a + 16 * b + 32 * c + 64 * d) &&& ((1 : Int32) <<< ((nI (128 + k) - 128) &&& 31)) = 0) ↔ fl4 k a b c d = 0) ∧ (nI (8 * a + 16 * b + 32 * c + 64 * d) ||| ((1 : Int32) <<< ((nI (128 + k) - 128) &&& 31))) = nI (8 * (if k = 3 then 1 else a) + 16 * (if k = 4 then 1 else b) + 32 * (if k = 5 then 1 else c) + 64 * (if k = 6 then 1 else d)) := by
  have h1 := onc_a a ha b hb c hc d hd
  have h2 := onc_b a ha b hb c hc d hd
  rcases (show k = 3 ∨ k = 4 ∨ k = 5 ∨ k = 6 by omega) with rfl | rfl | rfl | rfl
  · exact ⟨h1 0 (by decide), h2 0 (by decide)⟩
  · exact ⟨h1 1 (by decide), h2 1 (by decide)⟩
  · exact ⟨h1 2 (by decide), h2 2 (by decide)⟩
  · exact ⟨h1 3 (by decide), h2 3 (by decide)⟩
theorem PC.onc (hp : p = 8 ∨ p = 23) (h : PC E p N) {k : Nat} : PC (st E 72 k 1) p (sI N 7 2 (nI (8 * (if k = 3 then 1 else E 72 3) + 16 * (if k = 4 then 1 else E 72 4) + 32 * (if k = 5 then 1 else E 72 5) + 64 * (if k = 6 then 1 else E 72 6)))) := by
  obtain ⟨⟨a0, a1, a2, a3, a4, a5, a6, a7, a8, a9⟩, b, d, e⟩ := h
  have hs : ∀ j, st E 72 k 1 72 j = if k = j then 1 else E 72 j := fun j => by
    by_cases x : j = k
    · rw [x, st_at, if_pos rfl]
    · rw [st_co x, if_neg (fun q => x q.symm)]
  refine ⟨⟨a0.sI (by omega), ?_, ?_, ?_, ?_, ?_, ?_, ?_, ?_, ?_⟩, fun l hl => ?_, fun m hm => ?_, fun i hi => ?_⟩
  · rw [gI_sI, if_neg (by omega)]; exact a1
  · rw [gI_sI, if_neg (by omega)]; exact a2
  · rw [gI_sI, if_neg (by omega)]; exact a3
  · rw [gI_sI, if_neg (by omega)]; exact a4
  · rw [gI_sI, if_neg (by omega)]; exact a5
  · rw [gI_sI, if_neg (by omega)]; exact a6
  · rw [gI_sI, if_neg (by omega)]; exact a7
  · rw [gI_sI, if_neg (by omega)]; exact a8
  · rw [gI_sI, if_pos ⟨rfl, rfl⟩, hs, hs, hs, hs]
  · obtain ⟨b1, b2, b3, b4⟩ := b l hl
    refine ⟨b1, ?_, ?_, ?_⟩
    · rw [gI_sI, if_neg (by omega)]; exact b2
    · rw [gI_sI, if_neg (by omega)]; exact b3
    · rw [gI_sI, if_neg (by omega)]; exact b4
  · obtain ⟨d1, d2, d3⟩ := d m hm
    refine ⟨d1, ?_, ?_⟩
    · rw [gI_sI, if_neg (by omega)]; exact d2
    · rw [gI_sI, if_neg (by omega)]; exact d3
  · rw [gI_sI, if_neg (by omega)]; exact e i hi
def sOnc (f : Nat → Nat) (k i : Nat) (E : DT) (c : Nat → DT → RSL) : RSL := if E 72 k = 0 then c (i + 1) (st E 72 k 1) else flt f i 2
theorem beginOnce_ok (hz : z ≤ 1600) (hB : ∀ i, i < z → B i < 256) (hp : p = 8 ∨ p = 23) (h : CT (byt B z) N i) (hP : PC E p N) (hO : okN E) {k : Nat} (hk3 : 3 ≤ k) (hk : k < 7) (hn : knd (byt B z) i = 128 + k) : ∃ v K, f_Reader_beginOnce N = some (v, K) ∧ FC p N K ∧ ((E 72 k = 0 ∧ v = 1 ∧ CT (byt B z) K (i + 1) ∧ PC (st E 72 k 1) p K) ∨ (¬ E 72 k = 0 ∧ v = 0 ∧ CO (byt B z) p N (flt (byt B z) i 2) 0 K)) := by
  obtain ⟨⟨-, -, -, -, -, -, o6, o7, o8, o9⟩, -⟩ := hO
  obtain ⟨q1, q2⟩ := onc_I (a := E 72 3) (b := E 72 4) (c := E 72 5) (d := E 72 6) (by omega) (by omega) (by omega) (by omega) hk hk3
  have hf : fl4 k (E 72 3) (E 72 4) (E 72 5) (E 72 6) = E 72 k := by
    unfold fl4
    rcases (show k = 3 ∨ k = 4 ∨ k = 5 ∨ k = 6 by omega) with rfl | rfl | rfl | rfl <;> rfl
  unfold f_Reader_beginOnce
  rw [h.2.1, hn, hP.1.2.2.2.2.2.2.2.2.2]
  by_cases e : E 72 k = 0
  · rw [if_pos (q1.mpr (by rw [hf]; exact e)), wI_eq, q2]
    have hP2 := hP.onc hp (k := k)
    have c2 : CT (byt B z) (sI N 7 2 (nI (8 * (if k = 3 then 1 else E 72 3) + 16 * (if k = 4 then 1 else E 72 4) + 32 * (if k = 5 then 1 else E 72 5) + 64 * (if k = 6 then 1 else E 72 6)))) i := h.keep (fun a b x => by rw [gI_sI, if_neg (by omega)]) (fun _ _ _ => rfl)
    obtain ⟨K, u1, u2, u3, u4, -⟩ := step_co hz hB hp c2 hP2
    rw [u1, bnd_s]
    exact ⟨1, K, rfl, (FC.rfl'.sI (Or.inr (Or.inr (Or.inr (Or.inl rfl))))).trans u4, Or.inl ⟨e, rfl, u2, u3⟩⟩
  · obtain ⟨K, k1, k2⟩ := refuse_ok (p := p) hz hB h 2
    refine ⟨0, K, ?_, k2.1, Or.inr ⟨e, rfl, k2⟩⟩
    rw [if_neg (fun q => e (by rw [← hf]; exact q1.mp q))]
    show bnd (f_Reader_refuse (nI 2) N) _ = _
    rw [k1, bnd_s]
end RO
