/-! a line, all lines, as the class reads them -/
def sDusk (f : Nat → Nat) (i : Nat) (E : DT) : RSL := sOnc f 3 i E (fun j E' => rd f 50 0 0 j E')
def sNmL (f : Nat → Nat) (i : Nat) (E : DT) (k most a b : Nat) : RSL := sOnc f k i E (fun j E' => sNum f most j (fun v => .inl (j + 1, st E' a b v)))
def sBody (f : Nat → Nat) (i : Nat) (E : DT) : RSL := if knd f i = 128 then sLamp f i E else if knd f i = 129 then sCord f i E else if knd f i = 130 then sNext f i E else if knd f i = 131 then sDusk f i E else if knd f i = 132 then sNmL f i E 4 8 0 3 else if knd f i = 133 then sNmL f i E 5 100 0 4 else if knd f i = 134 then sNmL f i E 6 999 73 0 else flt f i 2
def sLine (f : Nat → Nat) (i : Nat) (E : DT) : RSL := rb (sBody f i E) (fun j E' => sExp f 59 j E')
def sAll (f : Nat → Nat) : Nat → Nat → DT → RSL
  | 0, i, E => .inl (i, E)
  | c + 1, i, E => if knd f i = 0 then .inl (i, E) else rb (sLine f i E) (fun j E' => sAll f c j E')
theorem sAll_s (f : Nat → Nat) (c i : Nat) (E : DT) : sAll f (c + 1) i E = if knd f i = 0 then .inl (i, E) else rb (sLine f i E) (fun j E' => sAll f c j E') := rfl
theorem sNum_in {f : Nat → Nat} {most i : Nat} {ok : Nat → RSL} {q : Nat × DT} (h : sNum f most i ok = .inl q) : knd f i = 3 ∧ tkD f (plc f i) ≤ most ∧ ok (tkD f (plc f i)) = .inl q := by
  unfold sNum at h
  by_cases e : knd f i = 3
  · rw [if_pos e] at h
    by_cases e2 : tkD f (plc f i) ≤ most
    · rw [if_pos e2] at h; exact ⟨e, e2, h⟩
    · rw [if_neg e2] at h; cases h
  · rw [if_neg e] at h; cases h
theorem okN.onc {E : DT} (h : okN E) {k : Nat} : okN (st E 72 k 1) := by
  obtain ⟨⟨a0, a1, a2, a3, a4, a5, a6, a7, a8, a9⟩, b, d, e, g⟩ := h
  have hs : ∀ j, E 72 j ≤ 1 → st E 72 k 1 72 j ≤ 1 := fun j hj => by
    by_cases x : j = k
    · rw [x, st_at]; exact Nat.le_refl _
    · rw [st_co x]; exact hj
  refine ⟨⟨a0, a1, a2, a3, a4, a5, hs 3 a6, hs 4 a7, hs 5 a8, hs 6 a9⟩, b, d, fun q => ?_, g.kp (by decide) (by decide) (by omega)⟩
  by_cases x : 3 = k
  · rw [← x, st_at] at q; omega
  · rw [st_co x] at q; exact e q
theorem okN.fr {E E' : DT} (h : okN E) (fr : ∀ x y, ¬ (x = 5 ∨ x = 6 ∨ (x = 0 ∧ (y = 5 ∨ y = 6))) → E' x y = E x y) (hf : okFm E') (h3 : ¬ E' 72 3 = 0) : okN E' := by
  obtain ⟨⟨a0, a1, a2, a3, a4, a5, a6, a7, a8, a9⟩, b, d, e, g⟩ := h
  have f00 := fr 0 0 (by omega)
  have f01 := fr 0 1 (by omega)
  refine ⟨⟨by rw [f00]; exact a0, by rw [f01]; exact a1, by rw [f00, fr 0 2 (by omega)]; exact a2, by rw [fr 0 3 (by omega)]; exact a3, by rw [fr 0 4 (by omega)]; exact a4, by rw [fr 73 0 (by omega)]; exact a5, by rw [fr 72 3 (by omega)]; exact a6, by rw [fr 72 4 (by omega)]; exact a7, by rw [fr 72 5 (by omega)]; exact a8, by rw [fr 72 6 (by omega)]; exact a9⟩, fun l hl => ?_, fun c hc => ?_, fun q => absurd q h3, hf⟩
  · rw [f00] at hl
    rw [f00, fr 70 l (by omega), fr 1 l (by omega), fr 2 l (by omega)]
    obtain ⟨b1, b2, b3, b4, b5⟩ := b l hl
    exact ⟨b1, b2, b3, b4, fun l' hl' q => b5 l' hl' (by rw [fr 70 l' (by omega)] at q; exact q)⟩
  · rw [f01] at hc
    rw [f00, fr 71 c (by omega), fr 3 c (by omega), fr 4 c (by omega)]
    exact d c hc
section LI
variable {B : Nat → Nat} {z : Nat} {N : AM} {E : DT} {p i : Nat}
theorem sWat_in {f : Nat → Nat} {n j : Nat} {E' : DT} (h : sWat f n i E = .inl (j, E')) (hO : okN E) : okN E' ∧ i ≤ j := by
  unfold sWat at h
  by_cases e : knd f i = 144
  · rw [if_pos e] at h
    obtain ⟨h1, h2, h3⟩ := sNum_in h
    cases h3
    exact ⟨hO.watt h2, by omega⟩
  · rw [if_neg e] at h; cases h; exact ⟨hO, Nat.le_refl _⟩
theorem sLamp_in (hz : z ≤ 1600) (hB : ∀ i, i < z → B i < 256) {j : Nat} {E' : DT} (h : sLamp (byt B z) i E = .inl (j, E')) (hO : okN E) : okN E' ∧ i < j := by
  unfold sLamp at h
  by_cases h8 : 8 ≤ E 0 0
  · rw [if_pos h8] at h; cases h
  · rw [if_neg h8] at h
    by_cases e : knd (byt B z) (i + 1) = 2
    · rw [if_pos e] at h
      have hw := tkW_v hz (Or.inl e) (knd_lt hz hB (i + 1))
      by_cases hf : (fdw (E 70) (E 0 0) (wdf (byt B z) (i + 1))).isSome = true
      · rw [if_pos hf] at h; cases h
      · rw [if_neg hf] at h
        have hn : fdw (E 70) (E 0 0) (wdf (byt B z) (i + 1)) = none := by
          cases x : fdw (E 70) (E 0 0) (wdf (byt B z) (i + 1)) with
          | none => rfl
          | some l => rw [x] at hf; exact absurd rfl hf
        have hO2 := okN_addL hO (by omega) hw.1 hn
        by_cases e2 : knd (byt B z) (i + 2) = 140
        · rw [if_pos e2] at h
          have hl := hO.1.2.2.1
          obtain ⟨a, b⟩ := sWat_in h (hO2.lit (by
            show E 0 2 + 2 ^ E 0 0 < 2 ^ (E 0 0 + 1)
            rw [Nat.pow_succ]; omega))
          exact ⟨a, by omega⟩
        · rw [if_neg e2] at h
          obtain ⟨a, b⟩ := sWat_in h hO2
          exact ⟨a, by omega⟩
    · rw [if_neg e] at h; cases h
theorem sCord_in (hz : z ≤ 1600) (hB : ∀ i, i < z → B i < 256) {j : Nat} {E' : DT} (h : sCord (byt B z) i E = .inl (j, E')) (hO : okN E) : okN E' ∧ i < j := by
  unfold sCord at h
  by_cases h8 : 8 ≤ E 0 1
  · rw [if_pos h8] at h; cases h
  · rw [if_neg h8] at h
    by_cases e : knd (byt B z) (i + 1) = 2
    · rw [if_pos e] at h
      have hw := tkW_v hz (Or.inl e) (knd_lt hz hB (i + 1))
      by_cases hf : (fdw (E 71) (E 0 1) (wdf (byt B z) (i + 1))).isSome = true
      · rw [if_pos hf] at h; cases h
      · rw [if_neg hf] at h
        by_cases e2 : knd (byt B z) (i + 2) = 135
        · rw [if_pos e2] at h
          obtain ⟨j1, E1, q1, q2⟩ := rb_in h
          obtain ⟨a1, a2, a3, a4⟩ := sTur_in _ _ _ _ _ q1 (okN_addC hO (by omega) hw.1)
          unfold sCst at q2
          by_cases e3 : knd (byt B z) j1 = 136
          · rw [if_pos e3] at q2
            obtain ⟨h1, h2, h3⟩ := sNum_in q2
            cases h3
            exact ⟨a1.cost h2, by omega⟩
          · rw [if_neg e3] at q2; cases q2; exact ⟨a1, by omega⟩
        · rw [if_neg e2] at h; cases h
    · rw [if_neg e] at h; cases h
theorem sNext_in {f : Nat → Nat} {j : Nat} {E' : DT} (h : sNext f i E = .inl (j, E')) (hO : okN E) : okN E' ∧ i < j := by
  unfold sNext at h
  obtain ⟨a, a1, -, h⟩ := sOld_in h
  obtain ⟨b, b1, -, h⟩ := sOld_in h
  by_cases e : a = b ∨ (E 2 a).testBit b = true
  · rw [if_pos e] at h; cases h
  · rw [if_neg e] at h; cases h
    have hab : ¬ a = b := fun q => e (Or.inl q)
    obtain ⟨-, -, x1, x2, -⟩ := hO.2.1 a a1
    obtain ⟨-, -, y1, y2, -⟩ := hO.2.1 b b1
    refine ⟨?_, by omega⟩
    unfold besd
    refine okN.near (okN.near hO (or_lt x1 b1) ?_) (or_lt y1 a1) ?_
    · rw [Nat.testBit_or, x2, Nat.testBit_two_pow]; simp; exact fun q => hab q.symm
    · rw [Nat.testBit_or, y2, Nat.testBit_two_pow]; simp [hab]
theorem RI0 (hO : okN E) (h3 : E 72 3 = 0) : RI (st E 72 3 1) (st E 72 3 1) 0 := by
  obtain ⟨-, -, -, e, -⟩ := hO
  obtain ⟨e5, e6⟩ := e h3
  have f5 : st E 72 3 1 0 5 = 0 := e5
  have f6 : st E 72 3 1 0 6 = 0 := e6
  refine ⟨⟨by rw [f6]; omega, by rw [f5]; omega⟩, by rw [f6]; rfl, Nat.zero_le _, fun k hk => by rw [f6] at hk; omega, fun _ _ _ => rfl⟩
theorem sDusk_in (hz : z ≤ 1600) {j : Nat} {E' : DT} (h : sDusk (byt B z) i E = .inl (j, E')) (hO : okN E) : okN E' ∧ i < j := by
  unfold sDusk sOnc at h
  by_cases e : E 72 3 = 0
  · rw [if_pos e] at h
    obtain ⟨a1, a2, a3, a4⟩ := rd_in hz 50 0 0 (i + 1) (st E 72 3 1) 0 j E' (by omega) (by omega) (by omega) h (RI0 hO e)
    obtain ⟨e5, e6⟩ := hO.2.2.2.1 e
    have f5 : st E 72 3 1 0 5 = 0 := e5
    have f6 : st E 72 3 1 0 6 = 0 := e6
    obtain ⟨⟨r1, r2⟩, r3, r4, r5, r6⟩ := a1
    refine ⟨hO.onc.fr r6 ⟨r2, by omega, fun _ => r3, r5⟩ ?_, by omega⟩
    rw [r6 72 3 (by omega), st_at]; decide
  · rw [if_neg e] at h; cases h
theorem sNmL_in {f : Nat → Nat} {k most a b j : Nat} {E' : DT} (h : sNmL f i E k most a b = .inl (j, E')) (hO : ∀ v, v ≤ most → okN (st (st E 72 k 1) a b v)) : okN E' ∧ i < j := by
  unfold sNmL sOnc at h
  by_cases e : E 72 k = 0
  · rw [if_pos e] at h
    obtain ⟨h1, h2, h3⟩ := sNum_in h
    cases h3
    exact ⟨hO _ h2, by omega⟩
  · rw [if_neg e] at h; cases h
theorem sLine_in (hz : z ≤ 1600) (hB : ∀ i, i < z → B i < 256) {j : Nat} {E' : DT} (h : sLine (byt B z) i E = .inl (j, E')) (hO : okN E) : okN E' ∧ i < j ∧ j ≤ nE (byt B z) := by
  unfold sLine at h
  obtain ⟨j1, E1, q1, q2⟩ := rb_in h
  obtain ⟨s1, s2⟩ := sExp_in q2
  cases s2
  have hj : j1 + 1 ≤ nE (byt B z) := by
    obtain ⟨n1, n2, n3⟩ := nE_ok hz hB
    rcases Nat.lt_or_ge j1 (nE (byt B z)) with x | x
    · exact x
    · have e1 := plc_min hz hB j1
      rw [Nat.min_eq_right x] at e1
      have e2 : knd (byt B z) (nE (byt B z)) = knd (byt B z) j1 := by unfold knd; rw [e1]
      omega
  have key : okN E' ∧ i < j1 := by
    unfold sBody at q1
    split at q1
    · exact sLamp_in hz hB q1 hO
    · split at q1
      · exact sCord_in hz hB q1 hO
      · split at q1
        · exact sNext_in q1 hO
        · split at q1
          · exact sDusk_in hz q1 hO
          · split at q1
            · exact sNmL_in q1 (fun v hv => hO.onc.lst hv)
            · split at q1
              · exact sNmL_in q1 (fun v hv => hO.onc.gst hv)
              · split at q1
                · exact sNmL_in q1 (fun v hv => hO.onc.drw hv)
                · cases q1
  exact ⟨key.1, by omega, hj⟩
end LI
section LC
variable {B : Nat → Nat} {z : Nat} {N : AM} {E : DT} {p i : Nat}
theorem j212_ok (hz : z ≤ 1600) (hB : ∀ i, i < z → B i < 256) (hp : p = 8 ∨ p = 23) {r : RSL} {v : Int32} {K : AM} (h : CO (byt B z) p N r v K) : ∃ v' K', f_Reader_readLine_j212 v K = some (v', K') ∧ CO (byt B z) p N (rb r (fun j E' => sExp (byt B z) 59 j E')) v' K' := by
  unfold f_Reader_readLine_j212
  rcases h.cases with ⟨j, E', g1, rfl, g3, g4, g5⟩ | ⟨q, g1, rfl, g3⟩
  · rw [g1, rb_l, if_neg (by decide)]
    obtain ⟨v, K3, x1, x2⟩ := expect_ok (k := 59) hz hB hp g3 g4 (by decide)
    have x1' : f_Reader_expect 59 K = some (v, K3) := x1
    rw [x1', bnd_s]
    have hv : v = 1 ∨ v = 0 := by
      rcases x2.cases with ⟨_, _, _, hv, _⟩ | ⟨_, _, hv, _⟩
      · exact Or.inl hv
      · exact Or.inr hv
    refine ⟨v, K3, ?_, x2.from g5⟩
    rcases hv with rfl | rfl
    · rw [if_neg (by decide)]
    · rw [if_pos rfl]
  · rw [g1, rb_r, if_pos rfl]
    exact ⟨0, K, rfl, g3⟩
theorem CO.fw {f : Nat → Nat} {q : Nat × Nat} {K : AM} (hp : p = 8 ∨ p = 23) (h : CO f p N (.inr q) 0 K) {k : Nat} {v : Int32} : CO f p N (.inr q) 0 (sI K p k v) := by
  obtain ⟨h1, h2⟩ := h
  obtain ⟨a, b⟩ := q
  obtain ⟨h3, h4, h5⟩ := h2
  exact ⟨h1.sI (wC_p (k := 0) (by decide)), rfl, by rw [gI_sI, if_neg (by omega)]; exact h4, by rw [gI_sI, if_neg (by omega)]; exact h5⟩
theorem numLine (hz : z ≤ 1600) (hB : ∀ i, i < z → B i < 256) (hp : p = 8 ∨ p = 23) (h : CT (byt B z) N i) (hP : PC E p N) (hO : okN E) {k most a b fl : Nat} (hk3 : 3 ≤ k) (hk : k < 7) (hn : knd (byt B z) i = 128 + k) (hm : most ≤ 999) (J : Int32 → AM → Option (Int32 × AM)) (hJ : ∀ s M, J s M = ckK (gR M 7 1) 5 (wI M (gR M 7 1) fl (gI M 7 3) (fun M2 => f_Reader_readLine_j212 s M2))) (hS : ∀ E N v, PC E p N → PC (st E a b v) p (sI N p fl (nI v))) : ∃ v K, bnd (f_Reader_beginOnce N) (fun r M => if r = 0 then J 0 M else bnd (f_Reader_readNumber (nI most) M) (fun r3 M4 => if r3 = 0 then J 0 M4 else J 1 M4)) = some (v, K) ∧ CO (byt B z) p N (rb (sNmL (byt B z) i E k most a b) (fun j E' => sExp (byt B z) 59 j E')) v K := by
  obtain ⟨v, K1, b1, b2, b3⟩ := beginOnce_ok hz hB hp h hP hO hk3 hk hn
  have bad : ∀ (K : AM) (q : Nat × Nat), CO (byt B z) p N (.inr q) 0 K → ∃ v K', J 0 K = some (v, K') ∧ CO (byt B z) p N (rb (.inr q) (fun j E' => sExp (byt B z) 59 j E')) v K' := fun K q hq => by
    have hg : gR K 7 1 = p := (hq.1.1 7 1).trans hP.1.1.1
    rw [hJ, hg, ckK_eq (kd_p hp), wI_eq]
    exact j212_ok hz hB hp (hq.fw hp)
  rw [b1, bnd_s]
  unfold sNmL sOnc
  rcases b3 with ⟨c1, rfl, c3, c4⟩ | ⟨c1, rfl, c3⟩
  · rw [if_neg (by decide), if_pos c1]
    show ∃ v K, _ ∧ CO _ _ _ (rb (sNum (byt B z) most (i + 1) (fun v => .inl (i + 1 + 1, st (st E 72 k 1) a b v))) _) v K
    obtain ⟨v, K2, r1, r2, r3⟩ := readNumber_ok hz hB hp c3 c4 hm
    rw [r1, bnd_s]
    rcases r3 with ⟨q1, q2, rfl, q4, q5, q6⟩ | ⟨rfl, q2, q3⟩
    · rw [if_neg (by decide), hJ, q5.1.1.1, ckK_eq (kd_p hp), wI_eq, q6]
      refine j212_ok hz hB hp (v := 1) ⟨(b2.trans r2).sI (wC_p (k := 0) (by decide)), ?_⟩
      unfold sNum
      rw [if_pos q1, if_pos q2]
      exact ⟨rfl, q4.keep (fun c k x => by rw [gI_sI, if_neg (by omega)]) (fun _ _ _ => rfl), hS _ _ _ q5⟩
    · rw [if_pos rfl]
      have := (q2 (fun v => .inl (i + 1 + 1, st (st E 72 k 1) a b v))).from b2
      rcases this.cases with ⟨_, _, _, hv, _⟩ | ⟨q, g1, -, g3⟩
      · exact absurd hv (by decide)
      · rw [g1]
        exact bad K2 q g3
  · rw [if_pos rfl, if_neg c1]
    exact bad K1 _ c3
theorem readLine_ok (hz : z ≤ 1600) (hB : ∀ i, i < z → B i < 256) (hp : p = 8 ∨ p = 23) (h : CT (byt B z) N i) (hP : PC E p N) (hO : okN E) : ∃ v K, f_Reader_readLine N = some (v, K) ∧ CO (byt B z) p N (sLine (byt B z) i E) v K := by
  have hk := knd_lt hz hB i
  have ne : ∀ c : Nat, c < 300 → ¬ knd (byt B z) i = c → ¬ nI (knd (byt B z) i) = (OfNat.ofNat c : Int32) := fun c hc hne q => hne ((kndL hz hB i c hc).mp q)
  have ps : ∀ c : Nat, c < 300 → knd (byt B z) i = c → nI (knd (byt B z) i) = (OfNat.ofNat c : Int32) := fun c hc hne => (kndL hz hB i c hc).mpr hne
  unfold f_Reader_readLine sLine sBody
  rw [h.2.1]
  show ∃ v K, (if nI (knd (byt B z) i) = 128 then _ else if nI (knd (byt B z) i) = 129 then _ else if nI (knd (byt B z) i) = 130 then _ else if nI (knd (byt B z) i) = 131 then _ else if nI (knd (byt B z) i) = 132 then _ else if nI (knd (byt B z) i) = 133 then _ else if nI (knd (byt B z) i) = 134 then _ else _) = _ ∧ _
  by_cases h1 : knd (byt B z) i = 128
  · rw [if_pos (ps 128 (by decide) h1), if_pos h1]
    obtain ⟨v, K, k1, k2⟩ := readLamp_ok hz hB hp h hP hO
    rw [k1, bnd_s]
    exact j212_ok hz hB hp k2
  rw [if_neg (ne 128 (by decide) h1), if_neg h1]
  by_cases h2 : knd (byt B z) i = 129
  · rw [if_pos (ps 129 (by decide) h2), if_pos h2]
    obtain ⟨v, K, k1, k2⟩ := readCord_ok hz hB hp h hP hO
    rw [k1, bnd_s]
    exact j212_ok hz hB hp k2
  rw [if_neg (ne 129 (by decide) h2), if_neg h2]
  by_cases h3 : knd (byt B z) i = 130
  · rw [if_pos (ps 130 (by decide) h3), if_pos h3]
    obtain ⟨v, K, k1, k2⟩ := readNext_ok hz hB hp h hP hO
    rw [k1, bnd_s]
    exact j212_ok hz hB hp k2
  rw [if_neg (ne 130 (by decide) h3), if_neg h3]
  by_cases h4 : knd (byt B z) i = 131
  · rw [if_pos (ps 131 (by decide) h4), if_pos h4]
    obtain ⟨v, K1, b1, b2, b3⟩ := beginOnce_ok hz hB hp h hP hO (k := 3) (by decide) (by decide) h4
    rw [b1, bnd_s]
    unfold sDusk sOnc f_Reader_readLine_j92 f_Reader_readLine_j93
    rcases b3 with ⟨c1, rfl, c3, c4⟩ | ⟨c1, rfl, c3⟩
    · rw [if_neg (by decide), if_pos c1]
      obtain ⟨v, K2, d1, d2⟩ := grp_ok hz hB hp 50 0 0 100 (i + 1) K1 (st E 72 3 1) 0 (by omega) (by omega) (by omega) (by omega) c3 c4 (RI0 hO c1)
      have d1' : f_grp 100 0 0 0 K1 = some (v, K2) := d1
      rw [d1', bnd_s]
      have d3 := d2.from b2
      have hv : v = 1 ∨ v = 0 := by
        rcases d2.cases with ⟨_, _, _, hv, _⟩ | ⟨_, _, hv, _⟩
        · exact Or.inl hv
        · exact Or.inr hv
      rcases hv with rfl | rfl
      · rw [if_neg (by decide)]
        exact j212_ok hz hB hp d3
      · rw [if_pos rfl]
        exact j212_ok hz hB hp d3
    · rw [if_pos rfl, if_neg c1]
      exact j212_ok hz hB hp c3
  rw [if_neg (ne 131 (by decide) h4), if_neg h4]
  by_cases h5 : knd (byt B z) i = 132
  · rw [if_pos (ps 132 (by decide) h5), if_pos h5]
    exact numLine hz hB hp h hP hO (k := 4) (most := 8) (fl := 14) (by decide) (by decide) h5 (by decide) f_Reader_readLine_j118 (fun _ _ => rfl) (fun E N v hP => hP.lst hp v)
  rw [if_neg (ne 132 (by decide) h5), if_neg h5]
  by_cases h6 : knd (byt B z) i = 133
  · rw [if_pos (ps 133 (by decide) h6), if_pos h6]
    exact numLine hz hB hp h hP hO (k := 5) (most := 100) (fl := 15) (by decide) (by decide) h6 (by decide) f_Reader_readLine_j154 (fun _ _ => rfl) (fun E N v hP => hP.gst hp v)
  rw [if_neg (ne 133 (by decide) h6), if_neg h6]
  by_cases h7 : knd (byt B z) i = 134
  · rw [if_pos (ps 134 (by decide) h7), if_pos h7]
    exact numLine hz hB hp h hP hO (k := 6) (most := 999) (fl := 16) (by decide) (by decide) h7 (by decide) f_Reader_readLine_j191 (fun _ _ => rfl) (fun E N v hP => hP.drw hp v)
  rw [if_neg (ne 134 (by decide) h7), if_neg h7]
  obtain ⟨K, k1, k2⟩ := refuse_ok (p := p) hz hB h 2
  have k1' : f_Reader_refuse 2 N = some (0, K) := k1
  rw [k1', bnd_s]
  exact j212_ok hz hB hp k2
theorem read_loop (hz : z ≤ 1600) (hB : ∀ i, i < z → B i < 256) (hp : p = 8 ∨ p = 23) : ∀ c t y i N E, t + c = 1601 → c < y → CT (byt B z) N i → PC E p N → okN E → ∃ o, f_Reader_read_l29 y (nI t) N = some o ∧ (match sAll (byt B z) c i E, o with
    | .inl (j, E'), .inl (_, K) => CO (byt B z) p N (.inl (j, E')) 1 K
    | .inr q, .inr (v, K) => CO (byt B z) p N (.inr q) v K
    | _, _ => False) := by
  intro c
  induction c with
  | zero =>
    intro t y i N E ht hy hc hP hO
    obtain ⟨y, rfl⟩ : ∃ x, y = x + 1 := ⟨y - 1, by omega⟩
    refine ⟨.inl ((), N), ?_, FC.rfl', rfl, hc, hP⟩
    show f_Reader_read_b29 (f_Reader_read_l29 y) (nI t) N = _
    unfold f_Reader_read_b29
    rw [nI_lit 1600, if_pos (nI_lt (by omega) (by omega))]
  | succ c ih =>
    intro t y i N E ht hy hc hP hO
    obtain ⟨y, rfl⟩ : ∃ x, y = x + 1 := ⟨y - 1, by omega⟩
    have e : f_Reader_read_l29 (y + 1) (nI t) N = f_Reader_read_b29 (f_Reader_read_l29 y) (nI t) N := rfl
    rw [e, sAll_s]
    unfold f_Reader_read_b29
    rw [nI_lit 1600, if_neg (nI_nlt (by omega) (by decide)), hc.2.1]
    by_cases e0 : knd (byt B z) i = 0
    · rw [if_pos ((kndL hz hB i 0 (by decide)).mpr e0), if_pos e0]
      exact ⟨.inl ((), N), rfl, FC.rfl', rfl, hc, hP⟩
    · rw [if_neg (fun q => e0 ((kndL hz hB i 0 (by decide)).mp q)), if_neg e0]
      obtain ⟨v, K, k1, k2⟩ := readLine_ok hz hB hp hc hP hO
      rw [k1, bnd_s]
      rcases k2.cases with ⟨j, E', g1, rfl, g3, g4, g5⟩ | ⟨q, g1, rfl, g3⟩
      · rw [if_neg (by decide), g1, rb_l, nI_1]
        obtain ⟨a1, a2, a3⟩ := sLine_in hz hB g1 hO
        obtain ⟨o, o1, o2⟩ := ih (t + 1) y j K E' (by omega) (by omega) g3 g4 a1
        refine ⟨o, o1, ?_⟩
        revert o2
        cases sAll (byt B z) c j E' with
        | inl q =>
          cases o with
          | inl x => exact fun o2 => o2.from g5
          | inr x => exact id
        | inr q =>
          cases o with
          | inl x => exact id
          | inr x => exact fun o2 => o2.from g5
      · rw [if_pos rfl, g1, rb_r]
        exact ⟨.inr (0, K), rfl, g3⟩
end LC
