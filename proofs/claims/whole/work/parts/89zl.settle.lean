/-! a dusk that is told has steps -/
def HD (E : DT) : Prop := E 72 3 = 0 ∨ ¬ E 0 6 = 0
def KD (E E' : DT) : Prop := E' 72 3 = E 72 3 ∧ E' 0 6 = E 0 6
theorem HD.kd {E E' : DT} (h : HD E) (k : KD E E') : HD E' := by unfold HD; rw [k.1, k.2]; exact h
theorem KD.rfl' {E : DT} : KD E E := ⟨rfl, rfl⟩
theorem KD.trans {E E' E2 : DT} (h : KD E E') (h2 : KD E' E2) : KD E E2 := ⟨h2.1.trans h.1, h2.2.trans h.2⟩
theorem KD.s1 {E E' : DT} (k : KD E E') {a b v : Nat} (h : ¬ (a = 72 ∧ b = 3)) (h2 : ¬ (a = 0 ∧ b = 6)) : KD E (st E' a b v) :=
  ⟨(if_neg (fun e => h ⟨e.1.symm, e.2.symm⟩)).trans k.1, (if_neg (fun e => h2 ⟨e.1.symm, e.2.symm⟩)).trans k.2⟩
section DH
variable {B : Nat → Nat} {z : Nat} {f : Nat → Nat} {E E' : DT} {i j : Nat}
theorem sWat_kd {n : Nat} (h : sWat f n i E = .inl (j, E')) : KD E E' := by
  unfold sWat at h
  split at h
  · obtain ⟨-, -, h3⟩ := sNum_in h
    cases h3
    exact KD.rfl'.s1 (by omega) (by omega)
  · cases h; exact KD.rfl'
theorem sLamp_kd (h : sLamp f i E = .inl (j, E')) : KD E E' := by
  have h0 : ∀ w, KD E (addL E w) := fun w => (((KD.rfl'.s1 (by omega) (by omega)).s1 (by omega) (by omega)).s1 (by omega) (by omega)).s1 (by omega) (by omega)
  unfold sLamp at h
  split at h
  · cases h
  · split at h
    · split at h
      · cases h
      · split at h
        · exact ((h0 _).s1 (by omega) (by omega)).trans (sWat_kd h)
        · exact (h0 _).trans (sWat_kd h)
    · cases h
theorem sTur_kd {c : Nat} : ∀ k i E j E', sTur f c k i E = .inl (j, E') → KD E E' := by
  intro k
  induction k with
  | zero => intro i E j E' h; cases h; exact KD.rfl'
  | succ k ih =>
    intro i E j E' h
    rw [sTur_s] at h
    by_cases e : k < 8 ∧ ¬ knd f i = 2
    · rw [if_pos e] at h; cases h; exact KD.rfl'
    · rw [if_neg e] at h
      obtain ⟨l, l1, -, l2⟩ := sOld_in h
      by_cases eb : (E 3 c).testBit l = true
      · rw [if_pos eb] at l2; cases l2
      · rw [if_neg eb] at l2
        exact (KD.rfl'.s1 (by omega) (by omega)).trans (ih _ _ _ _ l2)
theorem sCord_kd (h : sCord f i E = .inl (j, E')) : KD E E' := by
  have h0 : ∀ w, KD E (addC E w) := fun w => (((KD.rfl'.s1 (by omega) (by omega)).s1 (by omega) (by omega)).s1 (by omega) (by omega)).s1 (by omega) (by omega)
  unfold sCord at h
  split at h
  · cases h
  · split at h
    · split at h
      · cases h
      · split at h
        · obtain ⟨j1, E1, q1, q2⟩ := rb_in h
          have k1 := (h0 _).trans (sTur_kd _ _ _ _ _ q1)
          unfold sCst at q2
          split at q2
          · obtain ⟨-, -, h3⟩ := sNum_in q2
            cases h3
            exact k1.s1 (by omega) (by omega)
          · cases q2; exact k1
        · cases h
    · cases h
theorem sNext_kd (h : sNext f i E = .inl (j, E')) : KD E E' := by
  unfold sNext at h
  obtain ⟨a, a1, -, h⟩ := sOld_in h
  obtain ⟨b, b1, -, h⟩ := sOld_in h
  split at h
  · cases h
  · cases h
    exact (KD.rfl'.s1 (by omega) (by omega)).s1 (by omega) (by omega)
theorem sNmL_kd {k most a b : Nat} (hk : ¬ k = 3) (h1 : ¬ (a = 72 ∧ b = 3)) (h2 : ¬ (a = 0 ∧ b = 6)) (h : sNmL f i E k most a b = .inl (j, E')) : KD E E' := by
  unfold sNmL sOnc at h
  split at h
  · obtain ⟨-, -, h3⟩ := sNum_in h
    cases h3
    exact (KD.rfl'.s1 (by omega) (by omega)).s1 h1 h2
  · cases h
theorem sDusk_hd (hz : z ≤ 1600) (h : sDusk (byt B z) i E = .inl (j, E')) (hO : okN E) : HD E' := by
  unfold sDusk sOnc at h
  by_cases e : E 72 3 = 0
  · rw [if_pos e] at h
    obtain ⟨a1, -⟩ := rd_in hz 50 0 0 (i + 1) (st E 72 3 1) 0 j E' (by omega) (by omega) (by omega) h (RI0 hO e)
    obtain ⟨-, r3, -⟩ := a1
    refine Or.inr (fun q => ?_)
    rw [q] at r3
    have r4 := Option.some.inj (show some 0 = some (0 + 1) from r3)
    omega
  · rw [if_neg e] at h; cases h
theorem sLine_hd (hz : z ≤ 1600) (h : sLine (byt B z) i E = .inl (j, E')) (hO : okN E) (hD : HD E) : HD E' := by
  unfold sLine at h
  obtain ⟨j1, E1, q1, q2⟩ := rb_in h
  obtain ⟨s1, s2⟩ := sExp_in q2
  cases s2
  unfold sBody at q1
  split at q1
  · exact hD.kd (sLamp_kd q1)
  · split at q1
    · exact hD.kd (sCord_kd q1)
    · split at q1
      · exact hD.kd (sNext_kd q1)
      · split at q1
        · exact sDusk_hd hz q1 hO
        · split at q1
          · exact hD.kd (sNmL_kd (by omega) (by omega) (by omega) q1)
          · split at q1
            · exact hD.kd (sNmL_kd (by omega) (by omega) (by omega) q1)
            · split at q1
              · exact hD.kd (sNmL_kd (by omega) (by omega) (by omega) q1)
              · cases q1
theorem sAll_hd (hz : z ≤ 1600) (hB : ∀ i, i < z → B i < 256) : ∀ c i E j E', sAll (byt B z) c i E = .inl (j, E') → okN E → HD E → okN E' ∧ HD E' := by
  intro c
  induction c with
  | zero => intro i E j E' h hO hD; cases h; exact ⟨hO, hD⟩
  | succ c ih =>
    intro i E j E' h hO hD
    rw [sAll_s] at h
    by_cases e : knd (byt B z) i = 0
    · rw [if_pos e] at h; cases h; exact ⟨hO, hD⟩
    · rw [if_neg e] at h
      obtain ⟨j1, E1, q1, q2⟩ := rb_in h
      exact ih j1 E1 j E' q2 (sLine_in hz hB q1 hO).1 (sLine_hd hz q1 hO hD)
end DH
/-! a plan is settled -/
theorem xt_up {tn : Nat → Nat} {c v : Nat} (hv : v < 2 ^ c) : xt tn (c + 1) (2 ^ c + v) = xt tn c v ^^^ tn c := by
  rw [xt_s, ← xt_mod tn c (2 ^ c + v), Nat.add_mod_left, Nat.mod_eq_of_lt hv, if_pos]
  rw [Nat.testBit_two_pow_add_eq, Nat.testBit_lt_two_pow hv]; rfl
theorem xt_low {tn : Nat → Nat} {c v : Nat} (hv : v < 2 ^ c) : xt tn (c + 1) v = xt tn c v := by
  rw [xt_s, Nat.testBit_lt_two_pow hv, if_neg (by decide), Nat.xor_zero]
section SE
variable {p n nc : Nat} {T : Nat → Nat} {N : AM}
def SI (p n : Nat) (T : Nat → Nat) (N K : AM) (c : Nat) : Prop := (∀ x k, gR K x k = gR N x k) ∧ (∀ x k, ¬ (x = p + 13 ∨ x = p + 3 ∨ x = p + 8) → gI K x k = gI N x k) ∧ (∀ k, k < 128 → gI K (p + 13) k = -1) ∧ (∀ l, l < n → gI K (p + 3) l = nI (tbf T l c)) ∧ (∀ s, s < 2 ^ c → gI K (p + 8) s = nI (xt T c s))
theorem set34 {K : AM} {c : Nat} (hn : n ≤ 8) (hc : c < 8) (h0 : gI K p 0 = nI n) (ht : gI K (p + 6) c = nI (T c)) (hT : T c < 2 ^ 31) (g3 : ∀ l, l < n → gI K (p + 3) l = nI (tbf T l c)) : ∃ K', f_Plan_settle_l34 p (nI c) fu 0 K = some ((), K') ∧ (∀ x k, gR K' x k = gR K x k) ∧ (∀ x k, ¬ x = p + 3 → gI K' x k = gI K x k) ∧ (∀ l, l < n → gI K' (p + 3) l = nI (tbf T l (c + 1))) := by
  have key : ∃ o, f_Plan_settle_l34 p (nI c) fu 0 K = some o ∧ ((∀ x k, gR o.2 x k = gR K x k) ∧ (∀ x k, ¬ x = p + 3 → gI o.2 x k = gI K x k) ∧ (∀ l, l < n → gI o.2 (p + 3) l = nI (tbf T l (c + 1)))) := by
    refine for_inv (fun y (s : Int32 × AM) => f_Plan_settle_l34 p (nI c) y s.1 s.2) (fun j s => s.1 = nI j ∧ (∀ x k, gR s.2 x k = gR K x k) ∧ (∀ x k, ¬ x = p + 3 → gI s.2 x k = gI K x k) ∧ ∀ l, l < n → gI s.2 (p + 3) l = if l < j then nI (tbf T l (c + 1)) else nI (tbf T l c)) n _ (fun j s y hj hI => ?_) (fun s y hI => ?_) n 0 (0, K) fu (by omega) (by rw [fu_eq]; omega) ⟨rfl, fun _ _ => rfl, fun _ _ _ => rfl, fun l hl => by rw [if_neg (by omega)]; exact g3 l hl⟩
    · obtain ⟨v, J⟩ := s
      obtain ⟨rfl, i1, i2, i3⟩ := hI
      simp only at i1 i2 i3
      left
      have e0 : gI J p 0 = nI n := by rw [i2 _ _ (by omega)]; exact h0
      have e6 : gI J (p + 6) c = nI (T c) := by rw [i2 _ _ (by omega)]; exact ht
      have e3 : gI J (p + 3) j = nI (tbf T j c) := by rw [i3 j hj, if_neg (by omega)]
      refine ⟨(nI (j + 1), sI J (p + 3) j (nI (tbf T j (c + 1)))), ⟨rfl, i1, fun x k q => by rw [gI_sI, if_neg (fun e => q e.1)]; exact i2 x k q, fun l hl => ?_⟩, ?_⟩
      · rw [gI_sI]
        by_cases e : l = j
        · rw [if_pos ⟨rfl, e⟩, if_pos (by omega), e]
        · rw [if_neg (fun q => e q.2), i3 l hl]
          by_cases e2 : l < j
          · rw [if_pos e2, if_pos (by omega)]
          · rw [if_neg e2, if_neg (by omega)]
      · show f_Plan_settle_b34 (f_Plan_settle_l34 p (nI c) y) p (nI c) (nI j) J = _
        unfold f_Plan_settle_b34
        rw [e0, if_neg (nI_ge hj (by omega)), ald_nI (by omega) (by decide), ald_nI hc (by decide), ast_nI (by omega) (by decide), e3, e6, nx_bit hT (by omega), nx_sh1 (Nat.le_of_lt_succ (Nat.mod_lt _ (by decide))) (by omega), nx_or, nI_1]
        rfl
    · obtain ⟨v, J⟩ := s
      obtain ⟨rfl, i1, i2, i3⟩ := hI
      simp only at i1 i2 i3
      have e0 : gI J p 0 = nI n := by rw [i2 _ _ (by omega)]; exact h0
      refine ⟨((), J), ?_, i1, i2, fun l hl => by rw [i3 l hl, if_pos hl]⟩
      show f_Plan_settle_b34 (f_Plan_settle_l34 p (nI c) y) p (nI c) (nI n) J = _
      unfold f_Plan_settle_b34
      rw [e0, if_pos (nI_le (Nat.le_refl _) (by omega))]
  obtain ⟨⟨u, K'⟩, k1, k2, k3, k4⟩ := key
  exact ⟨K', k1, k2, k3, k4⟩
theorem set75 {K : AM} {c : Nat} (hc : c < 8) (ht : gI K (p + 6) c = nI (T c)) (h8 : ∀ s, s < 2 ^ c → gI K (p + 8) s = nI (xt T c s)) : ∃ K', f_Plan_settle_l75 p (nI c) (nI (2 ^ c)) fu 0 K = some ((), K') ∧ (∀ x k, gR K' x k = gR K x k) ∧ (∀ x k, ¬ x = p + 8 → gI K' x k = gI K x k) ∧ (∀ s, s < 2 ^ (c + 1) → gI K' (p + 8) s = nI (xt T (c + 1) s)) := by
  have hw : 2 ^ c ≤ 2 ^ 7 := Nat.pow_le_pow_right (by decide) (by omega)
  have key : ∃ o, f_Plan_settle_l75 p (nI c) (nI (2 ^ c)) fu 0 K = some o ∧ ((∀ x k, gR o.2 x k = gR K x k) ∧ (∀ x k, ¬ x = p + 8 → gI o.2 x k = gI K x k) ∧ (∀ s, s < 2 ^ c + 2 ^ c → gI o.2 (p + 8) s = nI (xt T (c + 1) s))) := by
    refine for_inv (fun y (s : Int32 × AM) => f_Plan_settle_l75 p (nI c) (nI (2 ^ c)) y s.1 s.2) (fun j s => s.1 = nI j ∧ (∀ x k, gR s.2 x k = gR K x k) ∧ (∀ x k, ¬ x = p + 8 → gI s.2 x k = gI K x k) ∧ ∀ l, l < 2 ^ c + j → gI s.2 (p + 8) l = nI (xt T (c + 1) l)) (2 ^ c) _ (fun j s y hj hI => ?_) (fun s y hI => ?_) (2 ^ c) 0 (0, K) fu (by omega) (by rw [fu_eq]; omega) ⟨rfl, fun _ _ => rfl, fun _ _ _ => rfl, fun l hl => by rw [xt_low (by omega)]; exact h8 l (by omega)⟩
    · obtain ⟨v, J⟩ := s
      obtain ⟨rfl, i1, i2, i3⟩ := hI
      simp only at i1 i2 i3
      left
      have e6 : gI J (p + 6) c = nI (T c) := by rw [i2 _ _ (by omega)]; exact ht
      have e8 : gI J (p + 8) j = nI (xt T c j) := by rw [i3 j (by omega), xt_low hj]
      refine ⟨(nI (j + 1), sI J (p + 8) (2 ^ c + j) (nI (xt T (c + 1) (2 ^ c + j)))), ⟨rfl, i1, fun x k q => by rw [gI_sI, if_neg (fun e => q e.1)]; exact i2 x k q, fun l hl => ?_⟩, ?_⟩
      · rw [gI_sI]
        by_cases e : l = 2 ^ c + j
        · rw [if_pos ⟨rfl, e⟩, e]
        · rw [if_neg (fun q => e q.2)]; exact i3 l (by omega)
      · show f_Plan_settle_b75 (f_Plan_settle_l75 p (nI c) (nI (2 ^ c)) y) p (nI c) (nI (2 ^ c)) (nI j) J = _
        unfold f_Plan_settle_b75
        rw [if_neg (nI_ge hj (by omega)), ald_nI (by omega) (by decide), ald_nI hc (by decide), nI_add, ast_nI (by omega) (by decide), e8, e6, nx_xor, nI_1, xt_up hj]
    · obtain ⟨v, J⟩ := s
      obtain ⟨rfl, i1, i2, i3⟩ := hI
      simp only at i1 i2 i3
      refine ⟨((), J), ?_, i1, i2, i3⟩
      show f_Plan_settle_b75 (f_Plan_settle_l75 p (nI c) (nI (2 ^ c)) y) p (nI c) (nI (2 ^ c)) (nI (2 ^ c)) J = _
      unfold f_Plan_settle_b75
      rw [if_pos (nI_le (Nat.le_refl _) (by omega))]
  obtain ⟨⟨u, K'⟩, k1, k2, k3, k4⟩ := key
  exact ⟨K', k1, k2, k3, fun s hs => k4 s (by rw [Nat.pow_succ] at hs; omega)⟩
theorem set2 : ∃ K', f_Plan_settle_l2 p fu 0 N = some ((), K') ∧ (∀ x k, gR K' x k = gR N x k) ∧ (∀ x k, ¬ x = p + 13 → gI K' x k = gI N x k) ∧ (∀ k, k < 128 → gI K' (p + 13) k = -1) := by
  have key : ∃ o, f_Plan_settle_l2 p fu 0 N = some o ∧ ((∀ x k, gR o.2 x k = gR N x k) ∧ (∀ x k, ¬ x = p + 13 → gI o.2 x k = gI N x k) ∧ (∀ k, k < 128 → gI o.2 (p + 13) k = -1)) := by
    refine for_inv (fun y (s : Int32 × AM) => f_Plan_settle_l2 p y s.1 s.2) (fun j s => s.1 = nI j ∧ (∀ x k, gR s.2 x k = gR N x k) ∧ (∀ x k, ¬ x = p + 13 → gI s.2 x k = gI N x k) ∧ ∀ l, l < j → gI s.2 (p + 13) l = -1) 128 _ (fun j s y hj hI => ?_) (fun s y hI => ?_) 128 0 (0, N) fu (by omega) (by rw [fu_eq]; omega) ⟨rfl, fun _ _ => rfl, fun _ _ _ => rfl, fun l hl => by omega⟩
    · obtain ⟨v, J⟩ := s
      obtain ⟨rfl, i1, i2, i3⟩ := hI
      simp only at i1 i2 i3
      left
      refine ⟨(nI (j + 1), sI J (p + 13) j (-1)), ⟨rfl, i1, fun x k q => by rw [gI_sI, if_neg (fun e => q e.1)]; exact i2 x k q, fun l hl => ?_⟩, ?_⟩
      · rw [gI_sI]
        by_cases e : l = j
        · rw [if_pos ⟨rfl, e⟩]
        · rw [if_neg (fun q => e q.2)]; exact i3 l (by omega)
      · show f_Plan_settle_b2 (f_Plan_settle_l2 p y) p (nI j) J = _
        unfold f_Plan_settle_b2
        rw [nI_lit 128, if_neg (nI_ge hj (by decide)), ast_nI hj (by decide), nI_1]
    · obtain ⟨v, J⟩ := s
      obtain ⟨rfl, i1, i2, i3⟩ := hI
      simp only at i1 i2 i3
      refine ⟨((), J), ?_, i1, i2, i3⟩
      show f_Plan_settle_b2 (f_Plan_settle_l2 p y) p (nI 128) J = _
      unfold f_Plan_settle_b2
      rw [nI_lit 128, if_pos (nI_le (Nat.le_refl _) (by decide))]
  obtain ⟨⟨u, K'⟩, k1, k2, k3, k4⟩ := key
  exact ⟨K', k1, k2, k3, k4⟩
theorem settle_ok (hn : n ≤ 8) (hc : nc ≤ 8) (h0 : gI N p 0 = nI n) (h6 : gI N p 6 = nI nc) (ht : ∀ c, c < nc → gI N (p + 6) c = nI (T c) ∧ T c < 2 ^ 31) (h3 : ∀ l, l < n → gI N (p + 3) l = 0) (h8 : gI N (p + 8) 0 = 0) : ∃ K, f_Plan_settle p N = some ((), K) ∧ SI p n T N K nc := by
  obtain ⟨N1, a1, a2, a3, a4⟩ := set2 (p := p) (N := N)
  have s0 : SI p n T N N1 0 := ⟨a2, fun x k q => a3 x k (fun e => q (Or.inl e)), a4, fun l hl => by rw [a3 _ _ (by omega), h3 l hl]; rfl, fun s hs => by
    have e : s = 0 := by have : s < 1 := hs; omega
    rw [e, a3 _ _ (by omega), h8]; rfl⟩
  have key : ∃ o, f_Plan_settle_l24 p fu 0 N1 = some o ∧ SI p n T N o.2 nc := by
    refine for_inv (fun y (s : Int32 × AM) => f_Plan_settle_l24 p y s.1 s.2) (fun j s => s.1 = nI j ∧ SI p n T N s.2 j) nc _ (fun j s y hj hI => ?_) (fun s y hI => ?_) nc 0 (0, N1) fu (by omega) (by rw [fu_eq]; omega) ⟨rfl, s0⟩
    · obtain ⟨v, J⟩ := s
      obtain ⟨rfl, i1, i2, i3, i4, i5⟩ := hI
      simp only at i1 i2 i3 i4 i5
      left
      obtain ⟨t1, t2⟩ := ht j hj
      have e0 : gI J p 0 = nI n := by rw [i2 _ _ (by omega)]; exact h0
      have e6 : gI J (p + 6) j = nI (T j) := by rw [i2 _ _ (by omega)]; exact t1
      have e66 : gI J p 6 = nI nc := by rw [i2 _ _ (by omega)]; exact h6
      obtain ⟨J1, b1, b2, b3, b4⟩ := set34 (T := T) hn (show j < 8 by omega) e0 e6 t2 i4
      obtain ⟨J2, d1, d2, d3, d4⟩ := set75 (T := T) (K := J1) (p := p) (show j < 8 by omega) (by rw [b3 _ _ (by omega)]; exact e6) (fun s hs => by rw [b3 _ _ (by omega)]; exact i5 s hs)
      refine ⟨(nI (j + 1), J2), ⟨rfl, fun x k => by rw [d2, b2]; exact i1 x k, fun x k q => by rw [d3 x k (by omega), b3 x k (by omega)]; exact i2 x k q, fun k hk => by rw [d3 _ _ (by omega), b3 _ _ (by omega)]; exact i3 k hk, fun l hl => by rw [d3 _ _ (by omega)]; exact b4 l hl, d4⟩, ?_⟩
      show f_Plan_settle_b24 (f_Plan_settle_l24 p y) p (nI j) J = _
      unfold f_Plan_settle_b24
      rw [e66, if_neg (nI_ge hj (by omega)), b1, bnd_s, nx_one j (by omega), d1, bnd_s, nI_1]
    · obtain ⟨v, J⟩ := s
      obtain ⟨rfl, hI⟩ := hI
      simp only at hI
      have e66 : gI J p 6 = nI nc := by rw [hI.2.1 _ _ (by omega)]; exact h6
      refine ⟨((), J), ?_, hI⟩
      show f_Plan_settle_b24 (f_Plan_settle_l24 p y) p (nI nc) J = _
      unfold f_Plan_settle_b24
      rw [e66, if_pos (nI_le (Nat.le_refl _) (by omega))]
  obtain ⟨⟨u, K⟩, k1, k2⟩ := key
  refine ⟨K, ?_, k2⟩
  unfold f_Plan_settle
  rw [a1, bnd_s, k1, bnd_s]
end SE
