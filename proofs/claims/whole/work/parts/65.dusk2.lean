theorem nx_mod {a d : Nat} (ha : a < 2 ^ 31) (h0 : 0 < d) (hd : d < 2 ^ 31) : nI a % nI d = nI (a % d) := by
  have hm : a % d < 2 ^ 31 := Nat.lt_of_le_of_lt (Nat.mod_le a d) ha
  apply Int32.toInt_inj.mp
  rw [Int32.toInt_mod, nI_toInt ha, nI_toInt hd, nI_toInt hm]
  rw [Int.tmod_eq_emod_of_nonneg (by omega)]
  exact (Int.natCast_emod a d).symm
/-- does a lamp turn over of itself, as a truth -/
def trb (D : DT) (l lit near night : Nat) : Bool := decide (D 0 6 ≠ 0) && decide (0 < (evs D (gvn D l lit near night) (D 0 6)).2 0)
theorem trb_iff {D : DT} {l lit near night : Nat} : trb D l lit near night = true ↔ trn D l lit near night := by
  unfold trb trn
  simp
/-- a picture behind a dusk: the first k lamps -/
def dk (D : DT) (pic night : Nat) : Nat → Nat
  | 0 => pic
  | k + 1 => dk D pic night k ^^^ (if trb D k (pic / 2 ^ k % 2) (pc (pic &&& D 2 k)) night = true then 2 ^ k else 0)
def dsk (D : DT) (pic night : Nat) : Nat := dk D pic night (D 0 0)
theorem dk_lt {D : DT} {pic night : Nat} (h : pic < 2 ^ D 0 0) : ∀ k, k ≤ D 0 0 → dk D pic night k < 2 ^ D 0 0 := by
  intro k
  induction k with
  | zero => intro _; exact h
  | succ k ih =>
    intro hk
    unfold dk
    refine Nat.xor_lt_two_pow (ih (by omega)) ?_
    split
    · exact Nat.pow_lt_pow_right (by decide) (by omega)
    · exact p2_pos _
theorem dsk_lt {D : DT} {pic night : Nat} (h : pic < 2 ^ D 0 0) : dsk D pic night < 2 ^ D 0 0 := dk_lt h _ (Nat.le_refl _)
theorem dk_none {D : DT} (h : D 0 6 = 0) (pic night : Nat) : ∀ k, dk D pic night k = pic := by
  intro k
  induction k with
  | zero => rfl
  | succ k ih =>
    unfold dk
    rw [ih, if_neg, Nat.xor_zero]
    unfold trb
    simp [h]
theorem pc7 : ∀ x, x < 256 → ∀ l, l < 8 → x.testBit l = false → pc x ≤ 7 := by decide +kernel
theorem okP.f {D : DT} (h : okP D) (hn : D 0 6 ≠ 0) : okF D (D 0 6) := ⟨h.2.2.2.2.2.2.2.2.1, h.2.2.2.2.2.2.2.2.2.1 hn, h.2.2.2.2.2.2.2.2.2.2⟩
theorem okP.near {D : DT} (h : okP D) {pic k : Nat} (hp : pic < 2 ^ D 0 0) (hk : k < D 0 0) : pc (pic &&& D 2 k) ≤ 7 ∧ pic &&& D 2 k < 256 := by
  have hl := h.2.2.2.2.2.2.1 k hk
  have h8 := p2_le h.1
  have hle : pic &&& D 2 k ≤ pic := Nat.and_le_left
  refine ⟨pc7 _ (by omega) k (by have := h.1; omega) ?_, by omega⟩
  rw [Nat.testBit_and, hl.2.2, Bool.and_false]
theorem give_ok {q i : Nat} (hi : i < 6) (v : Int32) (M : AM) : f_Form_give q (nI (140 + i)) v M = some ((), sI M (q + 3) i v) := by
  unfold f_Form_give
  rw [nI_lit 140, pk_sub (by omega), show 140 + i - 140 = i by omega, if_neg (nI_pos (by omega)), nI_lit 6, if_neg (nI_ge hi (by decide)), ast_nI hi (by decide)]
theorem duskWorth_ok {D : DT} {M : AM} {p l lit near night : Nat} (ho : okP D) (h6 : D 0 6 ≠ 0) (hP : PL D M p) (hl : l < D 0 0) : ∃ M', f_Plan_duskWorth p (nI l) (nI lit) (nI near) (nI night) M = some ((evs D (gvn D l lit near night) (D 0 6)).2 0, M') ∧ (∀ c k, c ≠ p + 11 → c ≠ p + 12 → gI M' c k = gI M c k) ∧ ∀ c k, gR M' c k = gR M c k := by
  have hl8 := ho.1
  obtain ⟨⟨a1, a2, a3, a4, a5, a6, a7⟩, b, cc, d, e⟩ := hP
  have htb : tbf (D 3) l (D 0 1) < 256 := Nat.lt_of_lt_of_le (tbf_lt _ _ _) (p2_le ho.2.1)
  generalize hM6 : sI (sI (sI (sI (sI (sI M (p + 12) 0 (nI lit)) (p + 12) 1 (nI near)) (p + 12) 2 (nI (pc (tbf (D 3) l (D 0 1))))) (p + 12) 3 (nI l)) (p + 12) 4 (nI (D 1 l))) (p + 12) 5 (nI night) = M6
  have i6 : ∀ c k, c ≠ p + 12 → gI M6 c k = gI M c k := fun c k hc => by
    rw [← hM6]
    simp only [gI_sI, hc, false_and, if_false]
  obtain ⟨N, w1, w2, w3⟩ := Form_worth_ok (M := M6) (q := p + 9) (g := gvn D l lit near night) (ho.f h6) (by rw [i6 _ _ (by omega)]; exact a7) (fun i hi => by rw [i6 _ _ (by omega)]; exact e i hi) (fun i hi => by
    rw [← hM6]
    obtain rfl | rfl | rfl | rfl | rfl | rfl : i = 0 ∨ i = 1 ∨ i = 2 ∨ i = 3 ∨ i = 4 ∨ i = 5 := by omega
    all_goals simp [gI_sI, gvn])
  refine ⟨N, ?_, fun c k h1 h2 => ?_, fun c k => ?_⟩
  · unfold f_Plan_duskWorth
    rw [show (140 : Int32) = nI (140 + 0) from rfl, give_ok (by decide), bnd_s, show (141 : Int32) = nI (140 + 1) from rfl, give_ok (by decide), bnd_s, ald_nI (by omega) (by decide)]
    rw [show gI (sI (sI M (p + 9 + 3) 0 (nI lit)) (p + 9 + 3) 1 (nI near)) (p + 3) l = nI (tbf (D 3) l (D 0 1)) by rw [gI_sI, if_neg (by omega), gI_sI, if_neg (by omega)]; exact (b l hl).2.2]
    rw [bc_ok htb, bnd_s, show (142 : Int32) = nI (140 + 2) from rfl, give_ok (by decide), bnd_s, show (143 : Int32) = nI (140 + 3) from rfl, give_ok (by decide), bnd_s, ald_nI (by omega) (by decide)]
    rw [gI_sI, if_neg (by omega), gI_sI, if_neg (by omega), gI_sI, if_neg (by omega), gI_sI, if_neg (by omega), (b l hl).1]
    rw [show (144 : Int32) = nI (140 + 4) from rfl, give_ok (by decide), bnd_s, show (145 : Int32) = nI (140 + 5) from rfl, give_ok (by decide), bnd_s, show p + 9 + 3 = p + 12 from rfl, hM6, w1, bnd_s]
  · rw [w2 c k (by omega)]; exact i6 c k h2
  · rw [w3, ← hM6]; rfl
theorem afterDusk_ok {D : DT} {M : AM} {p pic night : Nat} (hp : p = 8 ∨ p = 23) (ho : okP D) (hP : PL D M p) (hc : CCH D M p) (hpic : pic < 2 ^ D 0 0) (hn : night < 2 ^ 31) : ∃ M', f_Plan_afterDusk p (nI pic) (nI night) M = some (nI (dsk D pic night), M') ∧ PL D M' p ∧ CCH D M' p ∧ (∀ c k, ¬ (p + 11 ≤ c ∧ c ≤ p + 14) → gI M' c k = gI M c k) ∧ ∀ c k, gR M' c k = gR M c k := by
  have hnl := ho.1
  have h256 := p2_le ho.1
  have h269 := ho.2.2.2.2.2.2.2.2.1
  unfold f_Plan_afterDusk f_Form_isEmpty
  rw [hP.1.2.2.2.2.2.2]
  by_cases h6 : D 0 6 = 0
  · refine ⟨M, ?_, hP, hc, fun c k _ => rfl, fun c k => rfl⟩
    rw [h6, if_pos (by decide), bnd_s, if_neg (by decide)]
    unfold dsk
    rw [dk_none h6]
  · rw [if_neg (nI_ne0 (by omega) (by omega)), bnd_s, if_pos rfl]
    have key : ∃ o, f_Plan_afterDusk_l17 p (nI pic) (nI night) fu (nI pic) 0 M = some o ∧ (o.1 = nI (dsk D pic night) ∧ PL D o.2 p ∧ CCH D o.2 p ∧ (∀ c k, ¬ (p + 11 ≤ c ∧ c ≤ p + 14) → gI o.2 c k = gI M c k) ∧ ∀ c k, gR o.2 c k = gR M c k) := by
      refine for_inv (fun z (s : Int32 × Int32 × AM) => f_Plan_afterDusk_l17 p (nI pic) (nI night) z s.1 s.2.1 s.2.2) (fun k s => s.1 = nI (dk D pic night k) ∧ s.2.1 = nI k ∧ PL D s.2.2 p ∧ CCH D s.2.2 p ∧ (∀ c k, ¬ (p + 11 ≤ c ∧ c ≤ p + 14) → gI s.2.2 c k = gI M c k) ∧ ∀ c k, gR s.2.2 c k = gR M c k) (D 0 0) _ (fun k s z hk hI => ?_) (fun s z hI => ?_) (D 0 0) 0 (nI pic, 0, M) fu (by omega) (by rw [fu_eq]; omega) ⟨rfl, rfl, hP, hc, fun c k _ => rfl, fun c k => rfl⟩
      · obtain ⟨v3, v4, N⟩ := s
        obtain ⟨rfl, rfl, iP, iC, i4, i5⟩ := hI
        simp only at iP iC i4 i5
        left
        obtain ⟨hnear, hand⟩ := ho.near hpic hk
        have hlit : pic / 2 ^ k % 2 ≤ 1 := by omega
        obtain ⟨lit, hlite⟩ : ∃ lit, pic / 2 ^ k % 2 = lit := ⟨_, rfl⟩
        obtain ⟨near, hneare⟩ : ∃ near, pc (pic &&& D 2 k) = near := ⟨_, rfl⟩
        rw [hlite] at hlit
        rw [hneare] at hnear
        have hdk : dk D pic night (k + 1) = dk D pic night k ^^^ (if trb D k lit near night = true then 2 ^ k else 0) := by
          rw [← hlite, ← hneare]; rfl
        have hb : ∀ R, f_Plan_afterDusk_b17 (f_Plan_afterDusk_l17 p (nI pic) (nI night) z) p (nI pic) (nI night) (nI (dk D pic night k)) (nI k) N = R → f_Plan_afterDusk_l17 p (nI pic) (nI night) (z + 1) (nI (dk D pic night k)) (nI k) N = R := fun R hR => hR
        have hidx : (((nI k) * 2) + nI lit) * 8 + nI near = nI ((k * 2 + lit) * 8 + near) := by
          rw [nI_lit 2, pk_mul, nI_add, nI_lit 8, pk_mul, nI_add]
        have hilt : (k * 2 + lit) * 8 + near < 128 := by omega
        obtain ⟨ix, hixe⟩ : ∃ ix, (k * 2 + lit) * 8 + near = ix := ⟨_, rfl⟩
        -- what stands behind: one lamp read
        have hj : ∀ N', gI N' (p + 14) ix = (if trb D k lit near night = true then 1 else 0) → f_Plan_afterDusk_j108 (f_Plan_afterDusk_l17 p (nI pic) (nI night) z) p (nI pic) (nI night) (nI (dk D pic night k)) (nI k) (nI ix) N' = f_Plan_afterDusk_l17 p (nI pic) (nI night) z (nI (dk D pic night (k + 1))) (nI (k + 1)) N' := fun N' hv => by
          unfold f_Plan_afterDusk_j108
          rw [ald_nI (by omega) (by decide), hv, hdk, nI_1, nx_one k (by omega), nx_xor]
          by_cases ht : trb D k lit near night = true
          · rw [if_pos ht, if_neg (by decide), if_pos ht]
          · rw [if_neg ht, if_pos rfl, if_neg ht, Nat.xor_zero]
        have hbody : f_Plan_afterDusk_b17 (f_Plan_afterDusk_l17 p (nI pic) (nI night) z) p (nI pic) (nI night) (nI (dk D pic night k)) (nI k) N = if gI N (p + 13) ix = nI night then f_Plan_afterDusk_j108 (f_Plan_afterDusk_l17 p (nI pic) (nI night) z) p (nI pic) (nI night) (nI (dk D pic night k)) (nI k) (nI ix) N else bnd (f_Plan_duskWorth p (nI k) (nI lit) (nI near) (nI night) (sI N (p + 13) ix (nI night))) (fun r6 M7 => if r6 ≤ 0 then f_Plan_afterDusk_j107 (f_Plan_afterDusk_l17 p (nI pic) (nI night) z) p (nI pic) (nI night) (nI (dk D pic night k)) (nI k) (nI ix) (p + 14) (nI ix) 0 M7 else f_Plan_afterDusk_j107 (f_Plan_afterDusk_l17 p (nI pic) (nI night) z) p (nI pic) (nI night) (nI (dk D pic night k)) (nI k) (nI ix) (p + 14) (nI ix) 1 M7) := by
          unfold f_Plan_afterDusk_b17
          rw [iP.1.1, if_neg (nI_ge hk (by omega)), ald_nI (by omega) (by decide), (iP.2.1 k hk).2.1, nx_and, bc_ok hand, bnd_s, hneare, nx_bit (by omega) (by omega), hlite, hidx, hixe, ald_nI (by omega) (by decide), ast_nI (by omega) (by decide)]
        by_cases hcache : gI N (p + 13) ix = nI night
        · have hq := iC k lit near hk hlit hnear night (by rw [hixe]; exact hcache) hn
          rw [hixe] at hq
          refine ⟨(nI (dk D pic night (k + 1)), nI (k + 1), N), ⟨rfl, rfl, iP, iC, i4, i5⟩, hb _ ?_⟩
          rw [hbody, if_pos hcache]
          refine hj N ?_
          by_cases ht : trb D k lit near night = true
          · rw [if_pos ht]
            have := hq.2.mpr (trb_iff.mp ht)
            exact hq.1.resolve_left this
          · rw [if_neg ht]
            by_cases hz : gI N (p + 14) ix = 0
            · exact hz
            · exact absurd (trb_iff.mpr (hq.2.mp hz)) ht
        · have iP' : PL D (sI N (p + 13) ix (nI night)) p := iP.cq hp (fun c k q => by unfold lPQ at q; rw [gI_sI, if_neg (by omega)])
          obtain ⟨N1, w1, w2, w3⟩ := duskWorth_ok (lit := lit) (near := near) (night := night) ho h6 iP' hk
          generalize hw : (if trb D k lit near night = true then (1 : Int32) else 0) = w
          have hw01 : w = 0 ∨ w = 1 := by rw [← hw]; split <;> simp
          have i6 : ∀ c k, gI (sI N1 (p + 14) ix w) c k = if c = p + 14 ∧ k = ix then w else gI N1 c k := fun c k => rfl
          have fr : ∀ c k, ¬ (p + 11 ≤ c ∧ c ≤ p + 14) → gI (sI N1 (p + 14) ix w) c k = gI N c k := fun c k q => by
            rw [i6, if_neg (by omega), w2 c k (by omega) (by omega), gI_sI, if_neg (by omega)]
          refine ⟨(nI (dk D pic night (k + 1)), nI (k + 1), sI N1 (p + 14) ix w), ⟨rfl, rfl, ?_, ?_, fun c k q => (fr c k q).trans (i4 c k q), fun c k => ?_⟩, hb _ ?_⟩
          · exact iP.cq hp (fun c k q => fr c k (by unfold lPQ at q; omega))
          · intro l' lit' near' h1 h2 h3 night'
            have e13 : gI (sI N1 (p + 14) ix w) (p + 13) ((l' * 2 + lit') * 8 + near') = if (l' * 2 + lit') * 8 + near' = ix then nI night else gI N (p + 13) ((l' * 2 + lit') * 8 + near') := by
              rw [i6, if_neg (by omega), w2 _ _ (by omega) (by omega), gI_sI]
              by_cases hz : (l' * 2 + lit') * 8 + near' = ix
              · rw [if_pos ⟨rfl, hz⟩, if_pos hz]
              · rw [if_neg (by omega), if_neg hz]
            have e14 : gI (sI N1 (p + 14) ix w) (p + 14) ((l' * 2 + lit') * 8 + near') = if (l' * 2 + lit') * 8 + near' = ix then w else gI N (p + 14) ((l' * 2 + lit') * 8 + near') := by
              rw [i6]
              by_cases hz : (l' * 2 + lit') * 8 + near' = ix
              · rw [if_pos ⟨rfl, hz⟩, if_pos hz]
              · rw [if_neg (by omega), if_neg hz, w2 _ _ (by omega) (by omega), gI_sI, if_neg (by omega)]
            rw [e13, e14]
            by_cases hz : (l' * 2 + lit') * 8 + near' = ix
            · rw [if_pos hz, if_pos hz]
              intro q1 q2
              have q3 : night = night' := (nI_eq hn q2).mp q1
              obtain ⟨x1, x2, x3⟩ : l' = k ∧ lit' = lit ∧ near' = near := by omega
              subst x1 x2 x3 q3
              refine ⟨hw01, ?_⟩
              rw [← trb_iff, ← hw]
              by_cases ht : trb D l' lit' near' night = true
              · simp [ht]
              · simp [ht]
            · rw [if_neg hz, if_neg hz]
              exact iC l' lit' near' h1 h2 h3 night'
          · show gR N1 c k = gR M c k
            rw [w3]; exact i5 c k
          · rw [hbody, if_neg hcache, w1, bnd_s]
            unfold f_Plan_afterDusk_j107
            rw [ckB_0, ckB_1, ast_nI (by omega) (by decide), ast_nI (by omega) (by decide)]
            have hr6 : ((evs D (gvn D k lit near night) (D 0 6)).2 0 ≤ 0) ↔ ¬ trb D k lit near night = true := by
              rw [trb_iff]
              unfold trn
              rw [Int32.le_iff_toInt_le, Int32.lt_iff_toInt_lt]
              constructor
              · intro q z; omega
              · intro q
                by_cases z : (0 : Int32).toInt < ((evs D (gvn D k lit near night) (D 0 6)).2 0).toInt
                · exact absurd ⟨h6, z⟩ q
                · omega
            by_cases ht : trb D k lit near night = true
            · rw [if_neg (fun q => hr6.mp q ht)]
              have e1 : w = 1 := by rw [← hw, if_pos ht]
              rw [e1]
              refine hj _ ?_
              rw [gI_sI, if_pos ⟨rfl, rfl⟩, if_pos ht]
            · rw [if_pos (hr6.mpr ht)]
              have e1 : w = 0 := by rw [← hw, if_neg ht]
              rw [e1]
              refine hj _ ?_
              rw [gI_sI, if_pos ⟨rfl, rfl⟩, if_neg ht]
      · obtain ⟨v3, v4, N⟩ := s
        obtain ⟨rfl, rfl, iP, iC, i4, i5⟩ := hI
        refine ⟨(nI (dk D pic night (D 0 0)), N), ?_, rfl, iP, iC, i4, i5⟩
        show f_Plan_afterDusk_b17 (f_Plan_afterDusk_l17 p (nI pic) (nI night) z) p (nI pic) (nI night) (nI (dk D pic night (D 0 0))) (nI (D 0 0)) N = _
        unfold f_Plan_afterDusk_b17
        rw [show gI N p 0 = nI (D 0 0) from iP.1.1, if_pos (nI_le (Nat.le_refl _) (by omega))]
    obtain ⟨⟨v, N⟩, k1, k2, k3, k4, k5, k6⟩ := key
    simp only at k2
    refine ⟨N, ?_, k3, k4, k5, k6⟩
    rw [k1, bnd_s, k2]
