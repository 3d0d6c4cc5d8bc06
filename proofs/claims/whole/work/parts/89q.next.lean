/-! cords, next, numbers told by the class -/
section RN
variable {B : Nat → Nat} {z : Nat} {N : AM} {E : DT} {p i : Nat}
theorem addCord_ok (hp : p = 8 ∨ p = 23) (hP : PC E p N) (h8 : E 0 1 < 8) (w : Nat) : ∃ K, f_Plan_addCord p (lN (c32 w)) N = some (nI (E 0 1), K) ∧ PC (addC E w) p K ∧ FC p N K ∧ (∀ c k, c = 3 ∨ c = 4 ∨ c = 5 → gI K c k = gI N c k) ∧ (∀ c k, c = 3 ∨ c = 6 → gL K c k = gL N c k) := by
  obtain ⟨⟨a0, a1, a2, a3, a4, a5, a6, a7, a8, a9⟩, b, d, e⟩ := hP
  refine ⟨sI (sI (sI (sL N (p + 5) (E 0 1) (lN (c32 w))) (p + 6) (E 0 1) 0) (p + 7) (E 0 1) 1) p 6 (nI (E 0 1 + 1)), ?_, ?_, ?_, ?_, ?_⟩
  · unfold f_Plan_addCord
    rw [a3, nI_lit 8, if_neg (nI_ge h8 (by decide)), last_nI h8 (by decide), ast_nI h8 (by decide), ast_nI h8 (by decide), wI_eq]
    have e0 : gI (sI (sI (sL N (p + 5) (E 0 1) (lN (c32 w))) (p + 6) (E 0 1) 0) (p + 7) (E 0 1) 1) p 6 = nI (E 0 1) := by
      rw [gI_sI, if_neg (by omega), gI_sI, if_neg (by omega), gI_sL]; exact a3
    rw [e0, nI_1]
  · have ge : ∀ c k, ¬ (c = p + 6 ∨ c = p + 7 ∨ (c = p ∧ k = 6)) → gI (sI (sI (sI (sL N (p + 5) (E 0 1) (lN (c32 w))) (p + 6) (E 0 1) 0) (p + 7) (E 0 1) 1) p 6 (nI (E 0 1 + 1))) c k = gI N c k := fun c k q => by
      rw [gI_sI, if_neg (by omega), gI_sI, if_neg (by omega), gI_sI, if_neg (by omega), gI_sL]
    refine ⟨⟨⟨a0.1, by rw [ge _ _ (by omega)]; exact a0.2.1, by rw [ge _ _ (by omega)]; exact a0.2.2⟩, ?_, ?_, by rw [gI_sI, if_pos ⟨rfl, rfl⟩]; rfl, ?_, ?_, ?_, ?_, ?_, ?_⟩, fun l hl => ?_, fun c hc => ?_, fun j hj => ?_⟩
    · rw [ge _ _ (by omega)]; exact a1
    · rw [ge _ _ (by omega)]; exact a2
    · rw [ge _ _ (by omega)]; exact a4
    · rw [ge _ _ (by omega)]; exact a5
    · rw [ge _ _ (by omega)]; exact a6
    · rw [ge _ _ (by omega)]; exact a7
    · rw [ge _ _ (by omega)]; exact a8
    · rw [ge _ _ (by omega)]; exact a9
    · obtain ⟨b1, b2, b3, b4⟩ := b l hl
      refine ⟨?_, ?_, ?_, ?_⟩
      · show (if p + 1 = p + 5 ∧ l = E 0 1 then lN (c32 w) else gL N (p + 1) l) = _
        rw [if_neg (by omega)]; exact b1
      · rw [ge _ _ (by omega)]; exact b2
      · rw [ge _ _ (by omega)]; exact b3
      · rw [ge _ _ (by omega)]; exact b4
    · have hc' : c < E 0 1 + 1 := hc
      by_cases el : c = E 0 1
      · subst el
        refine ⟨?_, ?_, ?_⟩
        · show (if p + 5 = p + 5 ∧ E 0 1 = E 0 1 then lN (c32 w) else _) = lN (c32 (addC E w 71 (E 0 1)))
          rw [if_pos ⟨rfl, rfl⟩]
          unfold addC
          rw [st_ro (by decide), st_ro (by decide), st_ro (by decide), st_at]
        · rw [gI_sI, if_neg (by omega), gI_sI, if_neg (by omega), gI_sI, if_pos ⟨rfl, rfl⟩]
          unfold addC
          rw [st_ro (by decide), st_ro (by decide), st_at]; rfl
        · rw [gI_sI, if_neg (by omega), gI_sI, if_pos ⟨rfl, rfl⟩]
          unfold addC
          rw [st_ro (by decide), st_at]; rfl
      · obtain ⟨d1, d2, d3⟩ := d c (by omega)
        have hx : ∀ x, ¬ x = 0 → addC E w x c = E x c := fun x hx => by
          unfold addC
          rw [st_ro hx, st_co el, st_co el, st_co el]
        rw [hx 71 (by decide), hx 3 (by decide), hx 4 (by decide)]
        refine ⟨?_, ?_, ?_⟩
        · show (if p + 5 = p + 5 ∧ c = E 0 1 then lN (c32 w) else gL N (p + 5) c) = _
          rw [if_neg (fun q => el q.2)]; exact d1
        · rw [gI_sI, if_neg (by omega), gI_sI, if_neg (by omega), gI_sI, if_neg (by omega), gI_sL]; exact d2
        · rw [gI_sI, if_neg (by omega), gI_sI, if_neg (by omega), gI_sI, if_neg (by omega), gI_sL]; exact d3
    · rw [ge _ _ (by omega)]; exact e j hj
  · exact (((FC.rfl'.sL).sI (wC_p (by decide))).sI (wC_p (by decide))).sI (wC_p (k := 0) (by decide))
  · intro c k q
    rw [gI_sI, if_neg (by omega), gI_sI, if_neg (by omega), gI_sI, if_neg (by omega), gI_sL]
  · intro c k q
    show (if c = p + 5 ∧ k = E 0 1 then lN (c32 w) else gL N c k) = _
    rw [if_neg (by omega)]
theorem bit0 {a k : Nat} (ha : a < 2 ^ 31) (hk : k < 32) : ((nI a >>> (nI k &&& 31)) &&& 1 = 0) ↔ a.testBit k = false := by
  rw [nx_bit ha hk, tb_mod]
  by_cases h : a.testBit k = true
  · rw [if_pos h, h]
    constructor
    · intro q; exact absurd q (by decide)
    · intro q; cases q
  · rw [if_neg h]
    constructor
    · intro _; simpa using h
    · intro _; rfl
theorem or_k {a k : Nat} (hk : k < 31) : nI a ||| ((1 : Int32) <<< (nI k &&& 31)) = nI (a ||| 2 ^ k) := by rw [nx_one k hk, nx_or]
/-- the lamps that a cord turns -/
def sTur (f : Nat → Nat) (c : Nat) : Nat → Nat → DT → RSL
  | 0, i, E => .inl (i, E)
  | k + 1, i, E => if k < 8 ∧ ¬ knd f i = 2 then .inl (i, E) else sOld f i E (fun l => if (E 3 c).testBit l = true then flt f i 3 else sTur f c k (i + 1) (st E 3 c (E 3 c ||| 2 ^ l)))
theorem sTur_s (f : Nat → Nat) (c k i : Nat) (E : DT) : sTur f c (k + 1) i E = if k < 8 ∧ ¬ knd f i = 2 then .inl (i, E) else sOld f i E (fun l => if (E 3 c).testBit l = true then flt f i 3 else sTur f c k (i + 1) (st E 3 c (E 3 c ||| 2 ^ l))) := rfl
theorem or_lt {a n l : Nat} (ha : a < 2 ^ n) (hl : l < n) : a ||| 2 ^ l < 2 ^ n := Nat.or_lt_two_pow ha (Nat.pow_lt_pow_right (by decide) hl)
theorem readTurned_loop (hz : z ≤ 1600) (hB : ∀ i, i < z → B i < 256) (hp : p = 8 ∨ p = 23) {c : Nat} : ∀ k m y i N E, m + k = 9 → k < y → CT (byt B z) N i → PC E p N → okN E → c < E 0 1 → ∃ v K, bn2 (f_Reader_readTurned_l2 (nI c) y (nI m) N) (fun _ M2 => some (1, M2)) = some (v, K) ∧ CO (byt B z) p N (sTur (byt B z) c k i E) v K := by
  intro k
  induction k with
  | zero =>
    intro m y i N E hm hy h hP hO hc
    obtain ⟨y, rfl⟩ : ∃ x, y = x + 1 := ⟨y - 1, by omega⟩
    refine ⟨1, N, ?_, FC.rfl', rfl, h, hP⟩
    have e : f_Reader_readTurned_l2 (nI c) (y + 1) (nI m) N = some (.inl ((), N)) := by
      show f_Reader_readTurned_b2 (f_Reader_readTurned_l2 (nI c) y) (nI c) (nI m) N = _
      unfold f_Reader_readTurned_b2
      rw [nI_lit 8, if_pos (nI_lt (by omega) (by omega))]
    rw [e, bn2_l]
  | succ k ih =>
    intro m y i N E hm hy h hP hO hc
    obtain ⟨y, rfl⟩ : ∃ x, y = x + 1 := ⟨y - 1, by omega⟩
    have h00 := hO.1.1
    have h01 := hO.1.2.1
    rw [sTur_s]
    have e0 : f_Reader_readTurned_l2 (nI c) (y + 1) (nI m) N = f_Reader_readTurned_b2 (f_Reader_readTurned_l2 (nI c) y) (nI c) (nI m) N := rfl
    have e1 : f_Reader_readTurned_l2 (nI c) (y + 1) (nI m) N = if k < 8 ∧ ¬ knd (byt B z) i = 2 then some (.inr (1, N)) else f_Reader_readTurned_j25 (f_Reader_readTurned_l2 (nI c) y) (nI c) (nI m) N := by
      rw [e0]
      unfold f_Reader_readTurned_b2
      rw [nI_lit 8, if_neg (nI_nlt (by omega) (by decide)), h.2.1]
      by_cases hk : k < 8
      · rw [if_neg (show ¬ nI m ≤ 0 from nI_ge (a := 0) (by omega) (by omega))]
        by_cases e : knd (byt B z) i = 2
        · rw [if_pos ((kndL hz hB i 2 (by decide)).mpr e), if_neg (fun q => q.2 e)]
        · rw [if_neg (fun q => e ((kndL hz hB i 2 (by decide)).mp q)), if_pos ⟨hk, e⟩]
      · have : m = 0 := by omega
        subst this
        rw [if_pos (show nI 0 ≤ 0 by decide), if_neg (fun q => hk q.1)]
    rw [e1]
    by_cases e : k < 8 ∧ ¬ knd (byt B z) i = 2
    · rw [if_pos e, if_pos e]
      exact ⟨1, N, rfl, FC.rfl', rfl, h, hP⟩
    · rw [if_neg e, if_neg e]
      unfold f_Reader_readTurned_j25
      obtain ⟨v, K, k1, k2⟩ := knownLamp_ok hz hB hp h hP hO
      rw [k1, bnd_s]
      rcases k2 with ⟨l, l1, rfl, rfl, l4⟩ | ⟨rfl, k3⟩
      · rw [l4, ← nI_0, if_pos (nI_le (Nat.zero_le _) (by omega)), hP.1.1.1, ckK_eq (kd_p hp), ald_nI (by omega) (by decide), (hP.2.2.1 c hc).2.1]
        have ht := (hO.2.2.1 c hc).2.1
        have h256 : 2 ^ E 0 0 ≤ 2 ^ 8 := Nat.pow_le_pow_right (by decide) h00
        rw [nI_0]
        by_cases eb : (E 3 c).testBit l = true
        · obtain ⟨K3, q1, q2⟩ := refuse_ok (p := p) hz hB h 3
          refine ⟨0, K3, ?_, by rw [if_pos eb]; exact q2⟩
          rw [if_neg (fun q => by rw [(bit0 (by omega) (by omega)).mp q] at eb; cases eb)]
          show bn2 (bnd (f_Reader_refuse (nI 3) K) _) _ = _
          rw [q1, bnd_s, bn2_r]
        · rw [if_pos ((bit0 (by omega) (by omega)).mpr (by simpa using eb)), ckK_eq (kd_p hp), ald_nI (by omega) (by decide), (hP.2.2.1 c hc).2.1, ast_nI (by omega) (by decide), or_k (by omega), if_neg eb]
          have hP2 := hP.turn hp (E 3 c ||| 2 ^ l) c
          have hc2 : CT (byt B z) (sI K (p + 6) c (nI (E 3 c ||| 2 ^ l))) i := h.keep (fun a b x => by rw [gI_sI, if_neg (by omega)]) (fun _ _ _ => rfl)
          obtain ⟨K1, s1, s2, s3, s4, -⟩ := step_co hz hB hp hc2 hP2
          rw [s1, bnd_s, nI_1]
          obtain ⟨v, K2, t1, t2⟩ := ih (m + 1) y (i + 1) K1 _ (by omega) (by omega) s2 s3 (hO.turn (or_lt ht l1)) hc
          exact ⟨v, K2, t1, t2.from ((FC.rfl'.sI (wC_p (by decide))).trans s4)⟩
      · rw [if_neg (by decide)]
        exact ⟨0, K, rfl, k3 _⟩
def rb (r : RSL) (k : Nat → DT → RSL) : RSL := match r with
  | .inl q => k q.1 q.2
  | .inr q => .inr q
theorem CO.cases {f : Nat → Nat} {r : RSL} {v : Int32} {K : AM} (h : CO f p N r v K) : (∃ j E', r = .inl (j, E') ∧ v = 1 ∧ CT f K j ∧ PC E' p K ∧ FC p N K) ∨ (∃ q, r = .inr q ∧ v = 0 ∧ CO f p N (.inr q) 0 K) := by
  obtain ⟨h1, h2⟩ := h
  match r, h2 with
  | .inl (j, E'), ⟨a, b, c⟩ => exact Or.inl ⟨j, E', rfl, a, b, c, h1⟩
  | .inr (k, pl), ⟨a, b, c⟩ => exact Or.inr ⟨(k, pl), rfl, a, h1, rfl, b, c⟩
def sCst (f : Nat → Nat) (n i : Nat) (E : DT) : RSL := if knd f i = 136 then sNum f 20 (i + 1) (fun v => .inl (i + 2, st E 4 n v)) else .inl (i, E)
def sCord (f : Nat → Nat) (i : Nat) (E : DT) : RSL := if 8 ≤ E 0 1 then flt f i 2 else if knd f (i + 1) = 2 then (if (fdw (E 71) (E 0 1) (wdf f (i + 1))).isSome = true then flt f (i + 1) 3 else if knd f (i + 2) = 135 then rb (sTur f (E 0 1) 9 (i + 3) (addC E (wdf f (i + 1)))) (sCst f (E 0 1)) else flt f (i + 2) 2) else flt f (i + 1) 2
/-- turning leaves what else is told -/
theorem sOld_in {f : Nat → Nat} {ok : Nat → RSL} {r : Nat × DT} (h : sOld f i E ok = .inl r) : ∃ l, l < E 0 0 ∧ knd f i = 2 ∧ ok l = .inl r := by
  by_cases e : knd f i = 2
  · cases hf : fdw (E 70) (E 0 0) (wdf f i) with
    | some l => rw [sOld_s e hf] at h; exact ⟨l, (fdw_at hf).1, e, h⟩
    | none => rw [sOld_n e hf] at h; cases h
  · rw [sOld_x e] at h; cases h
theorem sTur_in {f : Nat → Nat} {c : Nat} : ∀ k i E j E', sTur f c k i E = .inl (j, E') → okN E → okN E' ∧ i ≤ j ∧ E' 0 1 = E 0 1 ∧ E' 0 0 = E 0 0 := by
  intro k
  induction k with
  | zero => intro i E j E' h hO; cases h; exact ⟨hO, Nat.le_refl _, rfl, rfl⟩
  | succ k ih =>
    intro i E j E' h hO
    rw [sTur_s] at h
    by_cases e : k < 8 ∧ ¬ knd f i = 2
    · rw [if_pos e] at h; cases h; exact ⟨hO, Nat.le_refl _, rfl, rfl⟩
    · rw [if_neg e] at h
      obtain ⟨l, l1, -, l2⟩ := sOld_in h
      by_cases eb : (E 3 c).testBit l = true
      · rw [if_pos eb] at l2; cases l2
      · rw [if_neg eb] at l2
        have ht : E 3 c ||| 2 ^ l < 2 ^ E 0 0 ∨ ¬ c < E 0 1 := by
          rcases Nat.lt_or_ge c (E 0 1) with x | x
          · exact Or.inl (or_lt (hO.2.2.1 c x).2.1 l1)
          · exact Or.inr (by omega)
        have hO2 : okN (st E 3 c (E 3 c ||| 2 ^ l)) := by
          rcases ht with x | x
          · exact hO.turn x
          · obtain ⟨a, b, d, e, g⟩ := hO
            refine ⟨a, b, fun m hm => ⟨(d m hm).1, ?_, (d m hm).2.2⟩, e, g.kp (by decide) (by decide) (by omega)⟩
            show st E 3 c _ 3 m < _
            rw [st_co (fun q => x (by rw [← q]; exact hm))]
            exact (d m hm).2.1
        obtain ⟨a1, a2, a3, a4⟩ := ih (i + 1) _ j E' l2 hO2
        exact ⟨a1, by omega, a3, a4⟩
end RN
