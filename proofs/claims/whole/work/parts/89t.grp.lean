/-! the class reads the dusk so -/
section GR
variable {B : Nat → Nat} {z : Nat} {p : Nat} {E0 : DT}
theorem form_put_ok {N : AM} {E : DT} (hp : p = 8 ∨ p = 23) (hP : PC E p N) (h6 : E 0 6 < 270) (a b : Nat) : ∃ K, f_Form_put (p + 9) (cstep a b) N = some ((), K) ∧ PC (putE E a b) p K ∧ FC p N K ∧ (∀ c k, c = 3 ∨ c = 4 ∨ c = 5 → gI K c k = gI N c k) ∧ (∀ c k, gL K c k = gL N c k) := by
  obtain ⟨⟨a0, a1, a2, a3, a4, a5, a6, a7, a8, a9⟩, b', d, e⟩ := hP
  refine ⟨sI (sI N (p + 10) (E 0 6) (cstep a b)) (p + 9) 1 (nI (E 0 6 + 1)), ?_, ?_, (FC.rfl'.sI (wC_p (by decide))).sI (wC_p (by decide)), ?_, fun _ _ => rfl⟩
  · unfold f_Form_put
    rw [a8, nI_lit 270, if_neg (nI_ge h6 (by decide)), ast_nI h6 (by decide), wI_eq]
    have e0 : gI (sI N (p + 9 + 1) (E 0 6) (cstep a b)) (p + 9) 1 = nI (E 0 6) := by rw [gI_sI, if_neg (by omega)]; exact a8
    rw [e0, nI_1]
  · have ge : ∀ c k, ¬ (c = p + 10 ∨ (c = p + 9 ∧ k = 1)) → gI (sI (sI N (p + 10) (E 0 6) (cstep a b)) (p + 9) 1 (nI (E 0 6 + 1))) c k = gI N c k := fun c k q => by
      rw [gI_sI, if_neg (by omega), gI_sI, if_neg (by omega)]
    refine ⟨⟨⟨a0.1, by rw [ge _ _ (by omega)]; exact a0.2.1, by rw [ge _ _ (by omega)]; exact a0.2.2⟩, ?_, ?_, ?_, ?_, ?_, ?_, ?_, by rw [gI_sI, if_pos ⟨rfl, rfl⟩]; rfl, ?_⟩, fun l hl => ?_, fun c hc => ?_, fun j hj => ?_⟩
    · rw [ge _ _ (by omega)]; exact a1
    · rw [ge _ _ (by omega)]; exact a2
    · rw [ge _ _ (by omega)]; exact a3
    · rw [ge _ _ (by omega)]; exact a4
    · rw [ge _ _ (by omega)]; exact a5
    · rw [ge _ _ (by omega)]; exact a6
    · rw [ge _ _ (by omega)]; exact a7
    · rw [ge _ _ (by omega)]; exact a9
    · obtain ⟨b1, b2, b3, b4⟩ := b' l hl
      exact ⟨b1, by rw [ge _ _ (by omega)]; exact b2, by rw [ge _ _ (by omega)]; exact b3, by rw [ge _ _ (by omega)]; exact b4⟩
    · obtain ⟨d1, d2, d3⟩ := d c hc
      exact ⟨d1, by rw [ge _ _ (by omega)]; exact d2, by rw [ge _ _ (by omega)]; exact d3⟩
    · rw [putE_06] at hj
      rw [putE_5, putE_6, gI_sI, if_neg (by omega), gI_sI]
      by_cases el : j = E 0 6
      · rw [if_pos ⟨rfl, el⟩, if_pos el, if_pos el]
      · rw [if_neg (fun q => el q.2), if_neg el, if_neg el]; exact e j (by omega)
  · intro c k q
    rw [gI_sI, if_neg (by omega), gI_sI, if_neg (by omega)]
theorem levelOf_ok {k : Nat} (hk : k < 300) (M : AM) : f_Reader_levelOf (nI k) M = some (if lvl k ≤ 4 then nI (lvl k) else -1, M) := by
  by_cases h1 : k = 37
  · subst h1; rfl
  by_cases h2 : k = 42
  · subst h2; rfl
  by_cases h3 : k = 43
  · subst h3; rfl
  by_cases h4 : k = 45
  · subst h4; rfl
  by_cases h5 : k = 47
  · subst h5; rfl
  by_cases h6 : k = 137
  · subst h6; rfl
  by_cases h7 : k = 138
  · subst h7; rfl
  have e9 : lvl k = 9 := by
    unfold lvl
    rw [if_neg h6, if_neg h7, if_neg (by omega), if_neg (by omega)]
  have ne : ∀ c : Nat, c < 300 → ¬ k = c → ¬ nI k = (OfNat.ofNat c : Int32) := fun c hc hne q => hne ((nI_eq (by omega) (by omega)).mp q)
  rw [e9]
  unfold f_Reader_levelOf
  show (if nI k = 37 then _ else if nI k = 42 then _ else if nI k = 43 then _ else if nI k = 45 then _ else if nI k = 47 then _ else if nI k = 137 then _ else if nI k = 138 then _ else _) = _
  rw [if_neg (ne 37 (by decide) h1), if_neg (ne 42 (by decide) h2), if_neg (ne 43 (by decide) h3), if_neg (ne 45 (by decide) h4), if_neg (ne 47 (by decide) h5), if_neg (ne 137 (by decide) h6), if_neg (ne 138 (by decide) h7)]
  rfl
theorem lvlI {k m : Nat} (hm : m ≤ 4) : (if lvl k ≤ 4 then nI (lvl k) else -1) = nI m ↔ lvl k = m := by
  by_cases h : lvl k ≤ 4
  · rw [if_pos h]; exact nI_eq (by omega) (by omega)
  · rw [if_neg h]
    constructor
    · intro q; exact absurd q.symm (nI_neg1 (by omega))
    · intro q; omega
theorem sgI {k m : Nat} (h : lvl k = m) (hm : m ≤ 4) : -(nI k) = cstep 3 (sg k) := by
  unfold cstep sg
  rw [if_neg (by decide), if_neg (by decide), if_neg (by decide)]
  by_cases h1 : k = 137
  · rw [if_pos h1, if_pos rfl, h1]
  · rw [if_neg h1]
    by_cases h2 : k = 138
    · rw [if_pos h2, if_neg (by decide), if_pos rfl, h2]
    · rw [if_neg h2]
      unfold lvl at h
      rw [if_neg h1, if_neg h2] at h
      split at h
      · rw [if_neg (by omega), if_neg (by omega)]
      · split at h
        · rw [if_neg (by omega), if_neg (by omega)]
        · omega
theorem relI {k : Nat} (h : rel3 k) : -(nI k) = cstep 3 k := by
  unfold cstep
  unfold rel3 at h
  rw [if_neg (by decide), if_neg (by decide), if_neg (by decide), if_neg (by omega), if_neg (by omega)]
/-- how the class calls a level -/
noncomputable def cc (y m w : Nat) (N : AM) : Option (Int32 × AM) := if m = 2 then f_grp y 1 (nI w) 0 N else if m = 5 then f_grp y 2 (nI w) 0 N else f_grp y 0 (nI m) (nI w) N
theorem bnd_id {x : Option (Int32 × AM)} {v : Int32} {K : AM} (h : x = some (v, K)) : bnd x (fun r M => some (r, M)) = some (v, K) := by rw [h, bnd_s]
theorem grp_loop (hz : z ≤ 1600) (hB : ∀ i, i < z → B i < 256) (hp : p = 8 ∨ p = 23) {n m w y' : Nat} (hm : m ≤ 4) (hw : w ≤ 7) (hn : 6 * (7 - w) + (6 - (m + 1)) ≤ n)
    (down : ∀ i N E h, CT (byt B z) N i → PC E p N → RI E0 E h → ∃ v K, f_grp y' 0 (nI (m + 1)) (nI w) N = some (v, K) ∧ CO (byt B z) p N (rd (byt B z) n (m + 1) w i E) v K) : ∀ c t yy i N E h, t + c = 30 → c < yy → CT (byt B z) N i → PC E p N → RI E0 E (h + 1) → ∃ v K, bn2 (f_Reader_readJoined_l37 (f_grp y') (nI m) (nI w) yy (nI t) N) (fun _ M2 => some (1, M2)) = some (v, K) ∧ CO (byt B z) p N (loopR (byt B z) (rd (byt B z) n (m + 1) w) m c i E) v K := by
  intro c
  induction c with
  | zero =>
    intro t yy i N E h ht hy hc hP hr
    obtain ⟨yy, rfl⟩ : ∃ x, yy = x + 1 := ⟨yy - 1, by omega⟩
    refine ⟨1, N, ?_, FC.rfl', rfl, hc, hP⟩
    have e : f_Reader_readJoined_l37 (f_grp y') (nI m) (nI w) (yy + 1) (nI t) N = some (.inl ((), N)) := by
      show f_Reader_readJoined_b37 (f_grp y') (f_Reader_readJoined_l37 (f_grp y') (nI m) (nI w) yy) (nI m) (nI w) (nI t) N = _
      unfold f_Reader_readJoined_b37
      rw [nI_lit 30, if_pos (nI_le (by omega) (by omega))]
    rw [e, bn2_l]
  | succ c ih =>
    intro t yy i N E h ht hy hc hP hr
    obtain ⟨yy, rfl⟩ : ∃ x, yy = x + 1 := ⟨yy - 1, by omega⟩
    have e : f_Reader_readJoined_l37 (f_grp y') (nI m) (nI w) (yy + 1) (nI t) N = f_Reader_readJoined_b37 (f_grp y') (f_Reader_readJoined_l37 (f_grp y') (nI m) (nI w) yy) (nI m) (nI w) (nI t) N := rfl
    rw [e, loopR_s]
    unfold f_Reader_readJoined_b37
    rw [nI_lit 30, if_neg (nI_ge (by omega) (by decide)), hc.2.1, levelOf_ok (knd_lt hz hB i), bnd_s]
    by_cases el : lvl (knd (byt B z) i) = m
    · rw [if_pos ((lvlI hm).mpr el), if_pos el]
      obtain ⟨K1, s1, s2, s3, s4, -⟩ := step_co hz hB hp hc hP
      rw [s1, bnd_s, nI_1]
      obtain ⟨v, K2, d1, d2⟩ := down (i + 1) K1 E (h + 1) s2 s3 hr
      rw [d1, bnd_s]
      rcases d2.cases with ⟨j, E', g1, rfl, g3, g4, g5⟩ | ⟨q, g1, rfl, g3⟩
      · obtain ⟨r1, r2, r3, r4⟩ := rd_in hz n (m + 1) w (i + 1) E (h + 1) j E' hn (by omega) hw g1 hr
        have hr1 := hr.1.1
        have hr2 := r1.1.2
        have hr3 := r1.2.2.1
        obtain ⟨K3, p1, p2, p3, p4, p5⟩ := form_put_ok hp g4 (by omega) 3 (sg (knd (byt B z) i))
        rw [if_neg (by decide), g4.1.1.1, ckK_eq (kd_p hp), hc.2.1, sgI el hm, p1, bnd_s, nI_1, g1, rb_l]
        have rp := RI.put (a := 3) (b := sg (knd (byt B z) i)) (h' := h + 1) r1 (by unfold hst; rw [if_neg (by decide), if_neg (by decide), if_pos (by omega)]; rfl) (lvl_ok el hm) (by omega) (by omega)
        obtain ⟨v, K4, x1, x2⟩ := ih (t + 1) yy j K3 _ h (by omega) (by omega) (g3.keep p4 (fun c k _ => p5 c k)) p2 rp
        exact ⟨v, K4, x1, x2.from ((s4.trans g5).trans p3)⟩
      · rw [if_pos rfl, bn2_r, g1, rb_r]
        exact ⟨0, K2, rfl, g3.from s4⟩
    · rw [if_neg (fun q => el ((lvlI hm).mp q)), if_neg el, bn2_l]
      exact ⟨1, N, rfl, FC.rfl', rfl, hc, hP⟩
theorem unit_sel {gr : Nat → Int32 → Int32 → AM → Option (Int32 × AM)} {N : AM} {w k : Nat} (hk : k < 300) (hw : w ≤ 7) (h : gI N 3 6 = nI k) : f_Reader_readUnit_B gr (nI w) N = f_Reader_readUnit_j54 gr (nI w) (nI k) (if 140 ≤ k ∧ k ≤ 145 then 1 else 0) (if (140 ≤ k ∧ k ≤ 145) ∨ k = 3 ∨ (k = 40 ∧ w < 7) then 1 else 0) N := by
  have ne : ∀ c : Nat, c < 300 → ¬ k = c → ¬ nI k = (OfNat.ofNat c : Int32) := fun c hc hne q => hne ((nI_eq (by omega) (by omega)).mp q)
  have z0 : f_Reader_readUnit_j26 gr (nI w) (nI k) N = f_Reader_readUnit_j54 gr (nI w) (nI k) 0 (if k = 3 ∨ (k = 40 ∧ w < 7) then 1 else 0) N := by
    unfold f_Reader_readUnit_j26 f_Reader_readUnit_j27 f_Reader_readUnit_j49 f_Reader_readUnit_j53
    rw [if_pos rfl]
    by_cases h3 : k = 3
    · rw [if_pos (show nI k = 3 by rw [h3]; rfl), if_pos (Or.inl h3)]
    · rw [if_neg (ne 3 (by decide) h3)]
      by_cases h40 : k = 40
      · rw [if_pos (show nI k = 40 by rw [h40]; rfl)]
        by_cases hw7 : 7 ≤ w
        · rw [nI_lit 7, if_pos (nI_le hw7 (by omega)), if_neg (by omega)]
        · rw [nI_lit 7, if_neg (nI_ge (by omega) (by decide)), if_pos (by omega)]
      · rw [if_neg (ne 40 (by decide) h40), if_neg (by omega)]
  unfold f_Reader_readUnit_B
  rw [h]
  by_cases h1 : k < 140
  · rw [nI_lit 140, if_pos (nI_lt h1 (by decide)), z0, if_neg (show ¬ (140 ≤ k ∧ k ≤ 145) by omega)]
    by_cases c : k = 3 ∨ (k = 40 ∧ w < 7)
    · rw [if_pos c, if_pos (Or.inr c)]
    · rw [if_neg c, if_neg (show ¬ ((140 ≤ k ∧ k ≤ 145) ∨ k = 3 ∨ (k = 40 ∧ w < 7)) by omega)]
  · rw [nI_lit 140, if_neg (nI_nlt (by omega) (by omega))]
    by_cases h2 : 145 < k
    · rw [nI_lit 145, if_pos (nI_lt h2 (by omega)), z0, if_neg (by omega), if_neg (by omega), if_neg (by omega)]
    · rw [nI_lit 145, if_neg (nI_nlt (by omega) (by decide))]
      unfold f_Reader_readUnit_j27 f_Reader_readUnit_j49
      rw [if_neg (by decide), if_pos (by omega), if_pos (by omega)]
theorem grp_ok (hz : z ≤ 1600) (hB : ∀ i, i < z → B i < 256) (hp : p = 8 ∨ p = 23) : ∀ n m w y i N E h, 6 * (7 - w) + (6 - m) ≤ n → m ≤ 5 → w ≤ 7 → 2 * n ≤ y → CT (byt B z) N i → PC E p N → RI E0 E h → ∃ v K, cc y m w N = some (v, K) ∧ CO (byt B z) p N (rd (byt B z) n m w i E) v K := by
  intro n
  induction n with
  | zero => intro m w y i N E h hn hm hw; omega
  | succ n ih =>
    intro m w y i N E h hn hm hw hy hc hP hr
    obtain ⟨y', rfl⟩ : ∃ x, y = x + 1 := ⟨y - 1, by omega⟩
    have down : ∀ m', 1 ≤ m' → m' ≤ 5 → 6 * (7 - w) + (6 - m') ≤ n → ∀ i N E h, CT (byt B z) N i → PC E p N → RI E0 E h → ∃ v K, f_grp y' 0 (nI m') (nI w) N = some (v, K) ∧ CO (byt B z) p N (rd (byt B z) n m' w i E) v K := by
      intro m' h1 h5 hn' i N E h hc hP hr
      by_cases m2 : m' = 2
      · subst m2
        obtain ⟨y2, rfl⟩ : ∃ x, y' = x + 1 := ⟨y' - 1, by omega⟩
        obtain ⟨v, K, k1, k2⟩ := ih 2 w y2 i N E h hn' (by omega) hw (by omega) hc hP hr
        refine ⟨v, K, ?_, k2⟩
        rw [f_grp_s0]
        unfold f_Reader_readJoined_B
        rw [if_pos (show nI 2 = 2 from rfl)]
        exact bnd_id k1
      · by_cases m5 : m' = 5
        · subst m5
          obtain ⟨y2, rfl⟩ : ∃ x, y' = x + 1 := ⟨y' - 1, by omega⟩
          obtain ⟨v, K, k1, k2⟩ := ih 5 w y2 i N E h hn' (by omega) hw (by omega) hc hP hr
          refine ⟨v, K, ?_, k2⟩
          rw [f_grp_s0]
          unfold f_Reader_readJoined_B
          rw [if_neg (by decide), if_neg (by decide)]
          exact bnd_id k1
        · obtain ⟨v, K, k1, k2⟩ := ih m' w y' i N E h hn' h5 hw (by omega) hc hP hr
          refine ⟨v, K, ?_, k2⟩
          unfold cc at k1
          rw [if_neg m2, if_neg m5] at k1
          exact k1
    by_cases m2 : m = 2
    · subst m2
      rw [rd_one]
      show ∃ v K, f_grp (y' + 1) 1 (nI w) 0 N = some (v, K) ∧ _
      rw [f_grp_s1]
      unfold f_Reader_readOne_B
      rw [hc.2.1]
      by_cases e : knd (byt B z) i = 139
      · rw [if_pos ((kndL hz hB i 139 (by decide)).mpr e), if_pos e]
        by_cases ew : w < 7
        · rw [nI_lit 7, if_pos (nI_lt ew (by decide)), if_pos ew]
          obtain ⟨K1, s1, s2, s3, s4, -⟩ := step_co hz hB hp hc hP
          rw [s1, bnd_s, nI_1]
          obtain ⟨v, K2, d1, d2⟩ := ih 2 (w + 1) y' (i + 1) K1 E h (by omega) (by omega) (by omega) (by omega) s2 s3 hr
          have d1' : f_grp y' 1 (nI (w + 1)) 0 K1 = some (v, K2) := d1
          rw [d1', bnd_s]
          rcases d2.cases with ⟨j, E', g1, rfl, g3, g4, g5⟩ | ⟨q, g1, rfl, g3⟩
          · obtain ⟨r1, r2, r3, r4⟩ := rd_in hz n 2 (w + 1) (i + 1) E h j E' (by omega) (by omega) (by omega) g1 hr
            have hr1 := hr.1.1
            have hr2 := r1.1.2
            obtain ⟨K3, p1, p2, p3, p4, p5⟩ := form_put_ok hp g4 (by omega) 2 0
            have p1' : f_Form_put (p + 9) (-139) K2 = some ((), K3) := p1
            rw [if_neg (by decide), g4.1.1.1, ckK_eq (kd_p hp), p1', bnd_s, g1, rb_l]
            exact ⟨1, K3, rfl, (s4.trans g5).trans p3, rfl, g3.keep p4 (fun c k _ => p5 c k), p2⟩
          · rw [if_pos rfl, g1, rb_r]
            exact ⟨0, K2, rfl, g3.from s4⟩
        · obtain ⟨K, k1, k2⟩ := refuse_ok (p := p) hz hB hc 2
          refine ⟨0, K, ?_, by rw [if_neg ew]; exact k2⟩
          rw [nI_lit 7, if_neg (nI_nlt (by omega) (by omega))]
          show bnd (f_Reader_refuse (nI 2) N) _ = _
          rw [k1, bnd_s]
      · rw [if_neg (fun q => e ((kndL hz hB i 139 (by decide)).mp q)), if_neg e]
        obtain ⟨v, K1, d1, d2⟩ := down 3 (by omega) (by omega) (by omega) i N E h hc hP hr
        have d1' : f_grp y' 0 3 (nI w) N = some (v, K1) := d1
        rw [d1', bnd_s]
        rcases d2.cases with ⟨j, E', g1, rfl, g3, g4, g5⟩ | ⟨q, g1, rfl, g3⟩
        · obtain ⟨r1, r2, r3, r4⟩ := rd_in hz n 3 w i E h j E' (by omega) (by omega) (by omega) g1 hr
          rw [if_neg (by decide), g1, rb_l, g3.2.1]
          by_cases er : rel3 (knd (byt B z) j)
          · rw [if_pos er]
            have sel : (if nI (knd (byt B z) j) = 60 then f_Reader_readOne_j98 (f_grp y') (nI w) (nI (knd (byt B z) j)) K1 else if nI (knd (byt B z) j) = 62 then f_Reader_readOne_j98 (f_grp y') (nI w) (nI (knd (byt B z) j)) K1 else if nI (knd (byt B z) j) = 61 then f_Reader_readOne_j98 (f_grp y') (nI w) (nI (knd (byt B z) j)) K1 else some (1, K1)) = f_Reader_readOne_j98 (f_grp y') (nI w) (nI (knd (byt B z) j)) K1 := by
              rcases er with x | x | x
              · rw [if_pos ((kndL hz hB j 60 (by decide)).mpr x)]
              · rw [if_neg (fun q => by have := (kndL hz hB j 60 (by decide)).mp q; omega), if_pos ((kndL hz hB j 62 (by decide)).mpr x)]
              · rw [if_neg (fun q => by have := (kndL hz hB j 60 (by decide)).mp q; omega), if_neg (fun q => by have := (kndL hz hB j 62 (by decide)).mp q; omega), if_pos ((kndL hz hB j 61 (by decide)).mpr x)]
            rw [sel]
            unfold f_Reader_readOne_j98
            obtain ⟨K2, s1, s2, s3, s4, -⟩ := step_co hz hB hp g3 g4
            rw [s1, bnd_s]
            obtain ⟨v, K3, a1, a2⟩ := down 3 (by omega) (by omega) (by omega) (j + 1) K2 E' (h + 1) s2 s3 r1
            have a1' : f_grp y' 0 3 (nI w) K2 = some (v, K3) := a1
            rw [a1', bnd_s]
            rcases a2.cases with ⟨j2, E2, b1, rfl, b3, b4, b5⟩ | ⟨q, b1, rfl, b3⟩
            · obtain ⟨t1, t2, t3, t4⟩ := rd_in hz n 3 w (j + 1) E' (h + 1) j2 E2 (by omega) (by omega) (by omega) b1 r1
              have hr1 := hr.1.1
              have hr2 := t1.1.2
              obtain ⟨K4, p1, p2, p3, p4, p5⟩ := form_put_ok hp b4 (by omega) 3 (knd (byt B z) j)
              rw [if_neg (by decide), b4.1.1.1, ckK_eq (kd_p hp), relI er, p1, bnd_s, b1, rb_l]
              exact ⟨1, K4, rfl, ((g5.trans s4).trans b5).trans p3, rfl, b3.keep p4 (fun c k _ => p5 c k), p2⟩
            · rw [if_pos rfl, b1, rb_r]
              exact ⟨0, K3, rfl, b3.from (g5.trans s4)⟩
          · rw [if_neg er, if_neg (fun q => er (Or.inl ((kndL hz hB j 60 (by decide)).mp q))), if_neg (fun q => er (Or.inr (Or.inl ((kndL hz hB j 62 (by decide)).mp q)))), if_neg (fun q => er (Or.inr (Or.inr ((kndL hz hB j 61 (by decide)).mp q))))]
            exact ⟨1, K1, rfl, g5, rfl, g3, g4⟩
        · rw [if_pos rfl, g1, rb_r]
          exact ⟨0, K1, rfl, g3⟩
    · by_cases m5 : m = 5
      · subst m5
        rw [rd_unit]
        show ∃ v K, f_grp (y' + 1) 2 (nI w) 0 N = some (v, K) ∧ _
        rw [f_grp_s2, unit_sel (knd_lt hz hB i) hw hc.2.1]
        unfold f_Reader_readUnit_j54 f_Reader_readUnit_j76
        obtain ⟨K, k1, k2⟩ := refuse_ok (p := p) hz hB hc 2
        have k1' : f_Reader_refuse 2 N = some (0, K) := k1
        have hu30 := hr.1.2
        by_cases e : (140 ≤ knd (byt B z) i ∧ knd (byt B z) i ≤ 145) ∨ knd (byt B z) i = 3 ∨ (knd (byt B z) i = 40 ∧ w < 7)
        · rw [if_pos e, if_neg (by decide), hP.1.1.1, ckK_eq (kd_p hp), hP.1.2.2.2.2.2.2.2.1]
          by_cases eu : E 0 5 < 30
          · rw [nI_lit 30, if_pos (nI_lt eu (by decide)), ckK_eq (kd_p hp), wI_eq, nI_1, if_pos (show canU (knd (byt B z) i) w (E 0 5) from ⟨e, eu⟩)]
            have hP1 : PC (untE E) p (sI N (p + 9) 4 (nI (E 0 5 + 1))) := hP.uni hp (E 0 5 + 1)
            have hc1 : CT (byt B z) (sI N (p + 9) 4 (nI (E 0 5 + 1))) i := hc.keep (fun a b x => by rw [gI_sI, if_neg (by omega)]) (fun _ _ _ => rfl)
            have hf1 : FC p N (sI N (p + 9) 4 (nI (E 0 5 + 1))) := FC.rfl'.sI (wC_p (by decide))
            have hr1 := hr.unt eu
            by_cases e4 : knd (byt B z) i = 40
            · rw [if_pos ((kndL hz hB i 40 (by decide)).mpr e4), if_pos e4]
              obtain ⟨K1, s1, s2, s3, s4, -⟩ := step_co hz hB hp hc1 hP1
              rw [s1, bnd_s, nI_1]
              obtain ⟨v, K2, d1, d2⟩ := ih 0 (w + 1) y' (i + 1) K1 (untE E) h (by omega) (by omega) (by omega) (by omega) s2 s3 hr1
              have d1' : f_grp y' 0 0 (nI (w + 1)) K1 = some (v, K2) := d1
              rw [d1', bnd_s]
              rcases d2.cases with ⟨j, E', g1, rfl, g3, g4, g5⟩ | ⟨q, g1, rfl, g3⟩
              · rw [if_neg (by decide), g1, rb_l]
                obtain ⟨v, K3, x1, x2⟩ := expect_ok (k := 41) hz hB hp g3 g4 (by decide)
                have x1' : f_Reader_expect 41 K2 = some (v, K3) := x1
                rw [x1', bnd_s]
                have hv : v = 1 ∨ v = 0 := by
                  rcases x2.cases with ⟨_, _, _, hv, _⟩ | ⟨_, _, hv, _⟩
                  · exact Or.inl hv
                  · exact Or.inr hv
                refine ⟨v, K3, ?_, x2.from ((hf1.trans s4).trans g5)⟩
                rcases hv with rfl | rfl
                · rw [if_neg (by decide)]
                · rw [if_pos rfl]
              · rw [if_pos rfl, g1, rb_r]
                exact ⟨0, K2, rfl, g3.from (hf1.trans s4)⟩
            · rw [if_neg (fun q => e4 ((kndL hz hB i 40 (by decide)).mp q)), if_neg e4, hP1.1.1.1, ckK_eq (kd_p hp)]
              have h69 := hr.1.1
              have put : ∀ a b, ∃ K, f_Reader_readUnit_j161 (f_grp y') (p + 9) (cstep a b) (sI N (p + 9) 4 (nI (E 0 5 + 1))) = some (1, K) ∧ CO (byt B z) p N (.inl (i + 1, putE (untE E) a b)) 1 K := fun a b => by
                unfold f_Reader_readUnit_j161
                obtain ⟨K3, p1, p2, p3, p4, p5⟩ := form_put_ok hp hP1 (show untE E 0 6 < 270 by show E 0 6 < 270; omega) a b
                obtain ⟨K4, s1, s2, s3, s4, -⟩ := step_co hz hB hp (hc1.keep p4 (fun c k _ => p5 c k)) p2
                rw [p1, bnd_s, s1, bnd_s]
                exact ⟨K4, rfl, (hf1.trans p3).trans s4, rfl, s2, s3⟩
              by_cases e3 : knd (byt B z) i = 3
              · obtain ⟨K3, q1, q2⟩ := put 0 (tkD (byt B z) (plc (byt B z) i))
                refine ⟨1, K3, ?_, by rw [if_pos e3, if_pos e3]; exact q2⟩
                rw [if_neg (show ¬ (140 ≤ knd (byt B z) i ∧ knd (byt B z) i ≤ 145) by omega), if_pos rfl, hc1.2.2.2.1 e3, lN_i]
                exact q1
              · obtain ⟨K3, q1, q2⟩ := put 1 (knd (byt B z) i - 140)
                refine ⟨1, K3, ?_, by rw [if_neg e3, if_neg e3]; exact q2⟩
                have ek : -(nI (knd (byt B z) i)) = cstep 1 (knd (byt B z) i - 140) := by
                  unfold cstep
                  rw [if_neg (by decide), if_pos rfl, show 140 + (knd (byt B z) i - 140) = knd (byt B z) i by omega]
                rw [if_pos (show 140 ≤ knd (byt B z) i ∧ knd (byt B z) i ≤ 145 by omega), if_neg (by decide), ek]
                exact q1
          · rw [nI_lit 30, if_neg (nI_nlt (by omega) (by omega)), if_neg (show ¬ canU (knd (byt B z) i) w (E 0 5) from fun q => eu q.2), k1', bnd_s]
            exact ⟨0, K, rfl, k2⟩
        · rw [if_neg e, if_pos rfl, if_neg (show ¬ canU (knd (byt B z) i) w (E 0 5) from fun q => e q.1), k1', bnd_s]
          exact ⟨0, K, rfl, k2⟩
      · rw [rd_join _ _ _ _ _ _ m2 m5]
        unfold cc
        rw [if_neg m2, if_neg m5, f_grp_s0]
        unfold f_Reader_readJoined_B
        have ne2 : ¬ nI m = 2 := fun q => m2 ((nI_eq (b := 2) (by omega) (by decide)).mp q)
        rw [if_neg ne2, nI_lit 5, if_pos (nI_lt (by omega) (by decide)), nI_1]
        have dn := down (m + 1) (by omega) (by omega) (by omega)
        obtain ⟨v, K1, d1, d2⟩ := dn i N E h hc hP hr
        rw [d1, bnd_s]
        rcases d2.cases with ⟨j, E', g1, rfl, g3, g4, g5⟩ | ⟨q, g1, rfl, g3⟩
        · obtain ⟨r1, r2, r3, r4⟩ := rd_in hz n (m + 1) w i E h j E' (by omega) (by omega) hw g1 hr
          obtain ⟨v, K2, x1, x2⟩ := grp_loop hz hB hp (m := m) (by omega) hw (by omega) dn 30 0 fu j K1 E' h rfl (by rw [fu_eq]; decide) g3 g4 r1
          rw [if_neg (by decide), g1, rb_l]
          exact ⟨v, K2, x1, x2.from g5⟩
        · rw [if_pos rfl, g1, rb_r]
          exact ⟨0, K1, rfl, g3⟩
end GR
