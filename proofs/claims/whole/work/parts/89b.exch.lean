/-! exchange -/
/-- the least of some numbers -/
def IsMn (Q : Nat → Prop) : Option Nat → Prop
  | none => ∀ m, ¬ Q m
  | some m => Q m ∧ ∀ m', Q m' → m ≤ m'
theorem IsMn.uni {Q : Nat → Prop} {o o' : Option Nat} (h : IsMn Q o) (h' : IsMn Q o') : o = o' := by
  cases o with
  | none =>
    cases o' with
    | none => rfl
    | some m => exact absurd h'.1 (h m)
  | some m =>
    cases o' with
    | none => exact absurd h.1 (h' m)
    | some m' =>
      have h1 := h.2 _ h'.1
      have h2 := h'.2 _ h.1
      rw [show m = m' by omega]
theorem IsMn.ext {Q R : Nat → Prop} {o : Option Nat} (h : IsMn Q o) (e : ∀ m, Q m ↔ R m) : IsMn R o := by
  cases o with
  | none => exact fun m q => h m ((e m).mpr q)
  | some m => exact ⟨(e m).mp h.1, fun m' q => h.2 m' ((e m').mpr q)⟩
def mn1 (o : Option Nat) (x : Nat) : Option Nat := match o with
  | none => some x
  | some m => if x < m then some x else some m
theorem IsMn.add {Q : Nat → Prop} {o : Option Nat} (h : IsMn Q o) (x : Nat) : IsMn (fun m => Q m ∨ m = x) (mn1 o x) := by
  cases o with
  | none => exact ⟨Or.inr rfl, fun m' q => q.elim (fun q => absurd q (h m')) (fun q => by omega)⟩
  | some m =>
    by_cases hx : x < m
    · have e : mn1 (some m) x = some x := if_pos hx
      rw [e]
      exact ⟨Or.inr rfl, fun m' q => q.elim (fun q => by have := h.2 m' q; omega) (fun q => by omega)⟩
    · have e : mn1 (some m) x = some m := if_neg hx
      rw [e]
      exact ⟨Or.inl h.1, fun m' q => q.elim (h.2 m') (fun q => by omega)⟩
def mnI : Option Nat → Int32
  | none => 2147483647
  | some m => nI m
theorem mnI_1 {o : Option Nat} {x : Nat} (hx : x < 1000) (ho : ∀ m, o = some m → m < 1000) : (if nI x < mnI o then nI x else mnI o) = mnI (mn1 o x) := by
  cases o with
  | none =>
    show (if nI x < nI 2147483647 then nI x else nI 2147483647) = nI x
    rw [if_pos (nI_lt (by omega) (by decide))]
  | some m =>
    have := ho m rfl
    show (if nI x < nI m then nI x else nI m) = mnI (if x < m then some x else some m)
    by_cases h : x < m
    · rw [if_pos (nI_lt h (by omega)), if_pos h]; rfl
    · rw [if_neg (nI_nlt (by omega) (by omega)), if_neg h]; rfl
/-- sets that make it dark -/
def drk (D : DT) (s : Nat) : Bool := decide (s &&& D (10 + D 7 0) 1 = 0) && decide (xt (D 3) (D 0 1) s = D (10 + D 7 0) 0)
def dmo (D : DT) (C : Nat → Nat) : Nat → Option Nat
  | 0 => none
  | k + 1 => if drk D k = true then mn1 (dmo D C k) (prc C (D 0 1) k) else dmo D C k
theorem dmo_s (D : DT) (C : Nat → Nat) (k : Nat) : dmo D C (k + 1) = if drk D k = true then mn1 (dmo D C k) (prc C (D 0 1) k) else dmo D C k := rfl
theorem dmo_ok (D : DT) (C : Nat → Nat) : ∀ n, IsMn (fun m => ∃ s, s < n ∧ drk D s = true ∧ prc C (D 0 1) s = m) (dmo D C n) := by
  intro n
  induction n with
  | zero => intro m q; obtain ⟨s, h, _⟩ := q; omega
  | succ n ih =>
    rw [dmo_s]
    by_cases hd : drk D n = true
    · rw [if_pos hd]
      refine (ih.add _).ext (fun m => ⟨?_, ?_⟩)
      · rintro (⟨s, h1, h2⟩ | rfl)
        · exact ⟨s, by omega, h2⟩
        · exact ⟨n, by omega, hd, rfl⟩
      · rintro ⟨s, h1, h2, h3⟩
        by_cases e : s = n
        · right; rw [← h3, e]
        · left; exact ⟨s, by omega, h2, h3⟩
    · rw [if_neg hd]
      refine ih.ext (fun m => ⟨?_, ?_⟩)
      · rintro ⟨s, h1, h2⟩; exact ⟨s, by omega, h2⟩
      · rintro ⟨s, h1, h2, h3⟩
        by_cases e : s = n
        · rw [e] at h2; exact absurd h2 hd
        · exact ⟨s, by omega, h2, h3⟩
def dmO (D : DT) (C : Nat → Nat) : Option Nat := dmo D C (2 ^ D 0 1)
/-- two costs exchanged -/
def swp (C : Nat → Nat) (a b i : Nat) : Nat := if i = a then C b else if i = b then C a else C i
theorem bit01 (s k : Nat) : s / 2 ^ k % 2 = 0 ∨ s / 2 ^ k % 2 = 1 := Nat.mod_two_eq_zero_or_one _
theorem prc_swp {C : Nat → Nat} {a b : Nat} (hab : a < b) (s : Nat) : ∀ n, (n ≤ a → prc (swp C a b) n s = prc C n s) ∧ (a < n → n ≤ b → prc (swp C a b) n s + (s / 2 ^ a % 2) * C a = prc C n s + (s / 2 ^ a % 2) * C b) ∧ (b < n → prc (swp C a b) n s + (s / 2 ^ a % 2) * C a + (s / 2 ^ b % 2) * C b = prc C n s + (s / 2 ^ a % 2) * C b + (s / 2 ^ b % 2) * C a) := by
  intro n
  induction n with
  | zero => exact ⟨fun _ => rfl, fun h => by omega, fun h => by omega⟩
  | succ n ih =>
    obtain ⟨i1, i2, i3⟩ := ih
    refine ⟨fun h => ?_, fun h1 h2 => ?_, fun h => ?_⟩
    · rw [prc_s, prc_s, i1 (by omega)]
      have : swp C a b n = C n := by unfold swp; rw [if_neg (by omega), if_neg (by omega)]
      rw [this]
    · rw [prc_s, prc_s]
      by_cases e : n = a
      · have : swp C a b n = C b := by unfold swp; rw [if_pos e]
        rw [this, i1 (by omega), e]; omega
      · have : swp C a b n = C n := by unfold swp; rw [if_neg e, if_neg (by omega)]
        have := i2 (by omega) (by omega)
        rw [show swp C a b n = C n by assumption]; omega
    · rw [prc_s, prc_s]
      by_cases e : n = b
      · have : swp C a b n = C a := by unfold swp; rw [if_neg (by omega), if_pos e]
        have := i2 (by omega) (by omega)
        rw [show swp C a b n = C a by assumption, e] at *; omega
      · have : swp C a b n = C n := by unfold swp; rw [if_neg (by omega), if_neg e]
        have := i3 (by omega)
        rw [show swp C a b n = C n by assumption]; omega
theorem swp_le {C : Nat → Nat} {a b n : Nat} (ha : a < n) (hb : b < n) (h : ∀ j, j < n → C j ≤ 20) : ∀ j, j < n → swp C a b j ≤ 20 := by
  intro j hj
  unfold swp
  split
  · exact h b hb
  · split
    · exact h a ha
    · exact h j hj
/-- the class's way to the exchanged price -/
theorem exch_I {P P' x y ca cb : Nat} (hx : x = 0 ∨ x = 1) (hy : y = 0 ∨ y = 1) (h : P' + x * ca + y * cb = P + x * cb + y * ca) : nI P + (nI x - nI y) * (nI cb - nI ca) = nI P' := by
  have asc : ∀ u v : Nat, nI P + (nI u - nI v) = nI (P + u) - nI v := fun u v => by
    rw [Int32.sub_eq_add_neg, ← Int32.add_assoc, nI_add, ← Int32.sub_eq_add_neg]
  rcases hx with rfl | rfl <;> rcases hy with rfl | rfl
  · rw [show nI 0 - nI 0 = 0 from by decide, Int32.zero_mul, Int32.add_zero, show P' = P by omega]
  · rw [show nI 0 - nI 1 = -1 from by decide, Int32.neg_mul, Int32.one_mul, Int32.neg_sub, asc, pk_sub (by omega), show P + ca - cb = P' by omega]
  · rw [show nI 1 - nI 0 = 1 from by decide, Int32.one_mul, asc, pk_sub (by omega), show P + cb - ca = P' by omega]
  · rw [show nI 1 - nI 1 = 0 from by decide, Int32.zero_mul, Int32.add_zero, show P' = P by omega]
/-- the class's rows of dark sets -/
def DRW (D : DT) (n : Nat) (g : Nat → Nat) (N : AM) : Prop := ∀ i, i < n → gI N 89 i = nI (g i) ∧ gI N 90 i = nI (prc (D 4) (D 0 1) (g i))
def DRG (D : DT) (k n : Nat) (g : Nat → Nat) : Prop := (∀ i, i < n → g i < k ∧ drk D (g i) = true) ∧ ∀ s, s < k → drk D s = true → ∃ i, i < n ∧ g i = s
theorem dmo_lt {D : DT} {C : Nat → Nat} (hC : ∀ j, j < D 0 1 → C j ≤ 20) (hn : D 0 1 ≤ 8) {k m : Nat} (h : dmo D C k = some m) : m < 1000 := by
  have := dmo_ok D C k
  rw [h] at this
  obtain ⟨⟨s, -, -, h3⟩, -⟩ := this
  have := prc_le (c := C) s (D 0 1) hC
  omega
theorem darkL {D : DT} {M : AM} (h : Rel D M) : ∃ n g M1, f_Sets_bestExchange_l9 (gR M 0 3) (gR M 39 (D 7 0)) fu 0 2147483647 0 M = some ((nI n, mnI (dmO D (D 4))), M1) ∧ n ≤ 256 ∧ DRW D n g M1 ∧ DRG D (2 ^ D 0 1) n g ∧ Sm M M1 := by
  have h256 := p2_le h.1.2.1
  have h256l := p2_le h.1.1
  have h0 := p2_pos (D 0 1)
  have hnc := h.1.2.1
  have s89 : ∀ j, scr 89 j ∧ scr 90 j := fun j => by unfold scr; omega
  have hview : ∀ N, Sm M N → VW D N (gR M 0 3) (gR M 39 (D 7 0)) ∧ Rel D N := fun N hN => h.view hN
  have hgr : ∀ N, Sm M N → gR N 0 3 = gR M 0 3 := fun N hN => hN.1 0 3
  have hpic := h.pic'
  have hC : ∀ j, j < D 0 1 → D 4 j ≤ 20 := fun j hj => (h.1.2.2.2.2.2.2.2.1 j hj).2
  generalize gR M 0 3 = p at *
  generalize gR M 39 (D 7 0) = r at *
  have key : ∃ o, f_Sets_bestExchange_l9 p r fu 0 2147483647 0 M = some o ∧ (∃ n g, o.1 = (nI n, mnI (dmO D (D 4))) ∧ n ≤ 256 ∧ DRW D n g o.2 ∧ DRG D (2 ^ D 0 1) n g ∧ Sm M o.2) := by
    refine for_inv (fun z (s : Int32 × Int32 × Int32 × AM) => f_Sets_bestExchange_l9 p r z s.1 s.2.1 s.2.2.1 s.2.2.2) (fun k s => ∃ n g, s.1 = nI n ∧ n ≤ k ∧ s.2.1 = mnI (dmo D (D 4) k) ∧ s.2.2.1 = nI k ∧ DRW D n g s.2.2.2 ∧ DRG D k n g ∧ Sm M s.2.2.2) (2 ^ D 0 1) _ (fun k s z hk hI => ?_) (fun s z hI => ?_) (2 ^ D 0 1) 0 (0, 2147483647, 0, M) fu (by omega) (by rw [fu_eq]; omega) ⟨0, fun _ => 0, rfl, Nat.le_refl _, rfl, rfl, fun i hi => by omega, ⟨fun i hi => by omega, fun s hs => by omega⟩, Sm.rfl'⟩
    · obtain ⟨v1, v2, v3, N⟩ := s
      obtain ⟨n, g, rfl, i0, rfl, rfl, i1, i2, i3⟩ := hI
      simp only at i1 i3
      left
      obtain ⟨⟨w1, w2, w3, w4, w5, w6, w7⟩, hR⟩ := hview N i3
      have hxl := Nat.lt_of_lt_of_le (xt_lt h.1 k _ (Nat.le_refl _)) h256l
      have hpr := prc_160 h.1 k
      by_cases hd : drk D k = true
      · have hd2 : k &&& D (10 + D 7 0) 1 = 0 ∧ xt (D 3) (D 0 1) k = D (10 + D 7 0) 0 := by unfold drk at hd; simpa using hd
        have sm1 : Sm M (sI N 89 n (nI k)) := i3.sI (s89 n).1
        have hR1 := h.sm sm1
        have g90 : gI (sI (sI N 89 n (nI k)) 90 n (nI (prc (D 4) (D 0 1) k))) 90 n = nI (prc (D 4) (D 0 1) k) := by rw [gI_sI, if_pos ⟨rfl, rfl⟩]
        have hp1 := priceOf_ok hR1 (s := k) (by omega)
        rw [hgr _ sm1] at hp1
        refine ⟨(nI (n + 1), mnI (dmo D (D 4) (k + 1)), nI (k + 1), sI (sI N 89 n (nI k)) 90 n (nI (prc (D 4) (D 0 1) k))), ⟨n + 1, at1 g n k, rfl, by omega, rfl, rfl, fun i hi => ?_, ⟨fun i hi => ?_, fun s hs hsd => ?_⟩, sm1.sI (s89 n).2⟩, ?_⟩
        · show gI (sI _ _ _ _) 89 i = _ ∧ gI (sI _ _ _ _) 90 i = _
          rw [gI_sI, if_neg (by omega), gI_sI, gI_sI]
          by_cases e : i = n
          · rw [if_pos ⟨rfl, e⟩, if_pos ⟨rfl, e⟩, e, at1_s]; exact ⟨rfl, rfl⟩
          · rw [if_neg (fun z => e z.2), if_neg (fun z => e z.2), at1_n e, gI_sI, if_neg (by omega)]
            exact i1 i (by omega)
        · by_cases e : i = n
          · rw [e, at1_s]; exact ⟨by omega, hd⟩
          · rw [at1_n e]
            have := i2.1 i (by omega)
            exact ⟨by omega, this.2⟩
        · by_cases e : s = k
          · exact ⟨n, by omega, by rw [at1_s]; exact e.symm⟩
          · obtain ⟨i, a1, a2⟩ := i2.2 s (by omega) hsd
            exact ⟨i, by omega, by rw [at1_n (by omega)]; exact a2⟩
        · show f_Sets_bestExchange_b9 (f_Sets_bestExchange_l9 p r z) p r (nI n) (mnI (dmo D (D 4) k)) (nI k) N = f_Sets_bestExchange_l9 p r z (nI (n + 1)) (mnI (dmo D (D 4) (k + 1))) (nI (k + 1)) _
          unfold f_Sets_bestExchange_b9
          rw [w1, bnd_s, if_neg (sets_go (by omega) hk), w3, if_pos ((and_zero_I (by omega)).mpr hd2.1), ald_nI (by omega) (by decide), w4 k hk, w2, if_pos (by rw [hd2.2]), ast_nI (by omega) (by decide), hp1, bnd_s, ast_nI (by omega) (by decide), ald_nI (by omega) (by decide), g90, mnI_1 (by omega) (fun m e => dmo_lt hC hnc e), nI_1, nI_1, dmo_s, if_pos hd]
      · refine ⟨(nI n, mnI (dmo D (D 4) (k + 1)), nI (k + 1), N), ⟨n, g, rfl, by omega, rfl, rfl, i1, ⟨fun i hi => ⟨by have := (i2.1 i hi).1; omega, (i2.1 i hi).2⟩, fun s hs hsd => i2.2 s ?_ hsd⟩, i3⟩, ?_⟩
        · by_cases e : s = k
          · rw [e] at hsd; exact absurd hsd hd
          · omega
        · show f_Sets_bestExchange_b9 (f_Sets_bestExchange_l9 p r z) p r (nI n) (mnI (dmo D (D 4) k)) (nI k) N = f_Sets_bestExchange_l9 p r z (nI n) (mnI (dmo D (D 4) (k + 1))) (nI (k + 1)) N
          unfold f_Sets_bestExchange_b9
          rw [w1, bnd_s, if_neg (sets_go (by omega) hk), w3, ald_nI (by omega) (by decide), w4 k hk, w2, nI_1 k, dmo_s, if_neg hd]
          by_cases e1 : k &&& D (10 + D 7 0) 1 = 0
          · rw [if_pos ((and_zero_I (by omega)).mpr e1), if_neg (fun e2 => hd (by
              have := (nI_eq (by omega) (by omega)).mp e2
              unfold drk; simp [e1, this]))]
          · rw [if_neg (fun e => e1 ((and_zero_I (by omega)).mp e))]
    · obtain ⟨v1, v2, v3, N⟩ := s
      obtain ⟨n, g, rfl, i0, rfl, rfl, i1, i2, i3⟩ := hI
      simp only at i1 i3
      obtain ⟨⟨w1, w2, w3, w4, w5, w6, w7⟩, hR⟩ := hview N i3
      refine ⟨((nI n, mnI (dmo D (D 4) (2 ^ D 0 1))), N), ?_, n, g, rfl, by omega, i1, i2, i3⟩
      show f_Sets_bestExchange_b9 (f_Sets_bestExchange_l9 p r z) p r (nI n) (mnI (dmo D (D 4) (2 ^ D 0 1))) (nI (2 ^ D 0 1)) N = _
      unfold f_Sets_bestExchange_b9
      rw [w1, bnd_s, if_pos (sets_stop (by omega) h0)]
  obtain ⟨⟨v, M1⟩, k1, n, g, k2, k3, k4, k5, k6⟩ := key
  simp only at k2 k4 k6
  exact ⟨n, g, M1, by rw [k1, k2], k3, k4, k5, k6⟩
def mnf (f : Nat → Nat) : Nat → Option Nat
  | 0 => none
  | k + 1 => mn1 (mnf f k) (f k)
theorem mnf_s (f : Nat → Nat) (k : Nat) : mnf f (k + 1) = mn1 (mnf f k) (f k) := rfl
theorem mnf_ok (f : Nat → Nat) : ∀ n, IsMn (fun m => ∃ i, i < n ∧ f i = m) (mnf f n) := by
  intro n
  induction n with
  | zero => intro m q; obtain ⟨s, h, _⟩ := q; omega
  | succ n ih =>
    rw [mnf_s]
    refine (ih.add _).ext (fun m => ⟨?_, ?_⟩)
    · rintro (⟨s, h1, h2⟩ | rfl)
      · exact ⟨s, by omega, h2⟩
      · exact ⟨n, by omega, rfl⟩
    · rintro ⟨s, h1, h2⟩
      by_cases e : s = n
      · right; rw [← h2, e]
      · left; exact ⟨s, by omega, h2⟩
theorem leastExchanged_ok {D : DT} {N : AM} {n p a b : Nat} {g : Nat → Nat} (ho : okP D) (hn : n ≤ 256) (hW : DRW D n g N) (hG : DRG D (2 ^ D 0 1) n g) (hc : ∀ c, c < D 0 1 → gI N (p + 7) c = nI (D 4 c)) (hab : a < b) (hb : b < D 0 1) : f_Sets_leastExchanged p (nI n) (nI a) (nI b) N = some (mnI (dmO D (swp (D 4) a b)), N) := by
  have hnc := ho.2.1
  have h256 := p2_le ho.2.1
  have hC : ∀ j, j < D 0 1 → D 4 j ≤ 20 := fun j hj => (ho.2.2.2.2.2.2.2.1 j hj).2
  have hC' := swp_le (a := a) (b := b) (by omega) hb hC
  have hpl : ∀ s, prc (swp (D 4) a b) (D 0 1) s < 1000 := fun s => by
    have := prc_le (c := swp (D 4) a b) s (D 0 1) hC'
    omega
  have he : mnf (fun i => prc (swp (D 4) a b) (D 0 1) (g i)) n = dmO D (swp (D 4) a b) := by
    refine (mnf_ok _ n).uni ((dmo_ok D (swp (D 4) a b) (2 ^ D 0 1)).ext (fun m => ⟨?_, ?_⟩))
    · rintro ⟨s, h1, h2, h3⟩
      obtain ⟨i, i1, i2⟩ := hG.2 s h1 h2
      exact ⟨i, i1, by rw [i2]; exact h3⟩
    · rintro ⟨i, h1, h2⟩
      exact ⟨g i, (hG.1 i h1).1, (hG.1 i h1).2, h2⟩
  have hml : ∀ k m, mnf (fun i => prc (swp (D 4) a b) (D 0 1) (g i)) k = some m → m < 1000 := fun k m e => by
    have := mnf_ok (fun i => prc (swp (D 4) a b) (D 0 1) (g i)) k
    rw [e] at this
    obtain ⟨⟨i, -, rfl⟩, -⟩ := this
    exact hpl _
  unfold f_Sets_leastExchanged
  rw [ald_nI (by omega) (by decide), hc b hb, ald_nI (by omega) (by decide), hc a (by omega)]
  have key : f_Sets_leastExchanged_l23 (nI n) (nI a) (nI b) (nI (D 4 b) - nI (D 4 a)) fu 2147483647 0 N = some (mnI (dmO D (swp (D 4) a b)), N) := by
    rw [← he]
    exact for_up (fun z (q : Int32 × Int32 × AM) => f_Sets_leastExchanged_l23 (nI n) (nI a) (nI b) (nI (D 4 b) - nI (D 4 a)) z q.1 q.2.1 q.2.2) (fun k => (mnI (mnf (fun i => prc (swp (D 4) a b) (D 0 1) (g i)) k), nI k, N)) n _
      (fun k z hk => by
        show f_Sets_leastExchanged_b23 (f_Sets_leastExchanged_l23 (nI n) (nI a) (nI b) (nI (D 4 b) - nI (D 4 a)) z) (nI n) (nI a) (nI b) (nI (D 4 b) - nI (D 4 a)) (mnI (mnf (fun i => prc (swp (D 4) a b) (D 0 1) (g i)) k)) (nI k) N = f_Sets_leastExchanged_l23 (nI n) (nI a) (nI b) (nI (D 4 b) - nI (D 4 a)) z (mnI (mnf (fun i => prc (swp (D 4) a b) (D 0 1) (g i)) (k + 1))) (nI (k + 1)) N
        have hg := (hG.1 k hk).1
        unfold f_Sets_leastExchanged_b23
        rw [if_neg (nI_ge hk (by omega)), ald_nI (by omega) (by decide), ald_nI (by omega) (by decide), ald_nI (by omega) (by decide), (hW k hk).1, (hW k hk).2, nx_bit (by omega) (by omega), nx_bit (by omega) (by omega), exch_I (bit01 _ _) (bit01 _ _) ((prc_swp hab (g k) (D 0 1)).2.2 hb), mnI_1 (hpl _) (hml k), nI_1]
        rfl)
      (fun z => by
        show f_Sets_leastExchanged_b23 (f_Sets_leastExchanged_l23 (nI n) (nI a) (nI b) (nI (D 4 b) - nI (D 4 a)) z) (nI n) (nI a) (nI b) (nI (D 4 b) - nI (D 4 a)) (mnI (mnf (fun i => prc (swp (D 4) a b) (D 0 1) (g i)) n)) (nI n) N = _
        unfold f_Sets_leastExchanged_b23
        rw [if_pos (nI_le (Nat.le_refl _) (by omega))]) n 0 fu (by omega) (by rw [fu_eq]; omega)
  rw [bnd_eq key]
/-- the exchanges that are worth it -/
def xcd (D : DT) (w : Nat) : Option Int32 := if w / 8 < w % 8 ∧ w % 8 < D 0 1 then (match dmO D (swp (D 4) (w / 8) (w % 8)), dmO D (D 4) with
  | some m, some m0 => if m < m0 then some (nI m) else none
  | _, _ => none) else none
theorem xcd_no {D : DT} {w : Nat} (h : ¬ (w / 8 < w % 8 ∧ w % 8 < D 0 1)) : xcd D w = none := if_neg h
theorem code8 {a b : Nat} (h : b < 8) : (a * 8 + b) / 8 = a ∧ (a * 8 + b) % 8 = b := by omega
theorem xcd_at {D : DT} {a b : Nat} (hab : a < b) (hb : b < D 0 1) (h8 : D 0 1 ≤ 8) : xcd D (a * 8 + b) = match dmO D (swp (D 4) a b), dmO D (D 4) with
  | some m, some m0 => if m < m0 then some (nI m) else none
  | _, _ => none := by
  unfold xcd
  rw [(code8 (show b < 8 by omega)).1, (code8 (show b < 8 by omega)).2, if_pos ⟨hab, hb⟩]
theorem scn_skip {cand : Nat → Option Int32} {m : Nat} : ∀ d, (∀ k, m ≤ k → k < m + d → cand k = none) → scn cand (m + d) = scn cand m := by
  intro d
  induction d with
  | zero => intro _; rfl
  | succ d ih =>
    intro h
    rw [← Nat.add_assoc, scn_n (h (m + d) (by omega) (by omega)), ih (fun k h1 h2 => h k h1 (by omega))]
theorem scn_skip' {cand : Nat → Option Int32} {m n : Nat} (hmn : m ≤ n) (h : ∀ k, m ≤ k → k < n → cand k = none) : scn cand n = scn cand m := by
  have := scn_skip (cand := cand) (m := m) (n - m) (fun k h1 h2 => h k h1 (by omega))
  rw [show m + (n - m) = n by omega] at this
  exact this
theorem dmO_none {D : DT} {C C' : Nat → Nat} (h : dmO D C = none) : dmO D C' = none := by
  cases h' : dmO D C' with
  | none => rfl
  | some m =>
    have h1 := dmo_ok D C (2 ^ D 0 1)
    have h2 := dmo_ok D C' (2 ^ D 0 1)
    unfold dmO at h h'
    rw [h] at h1
    rw [h'] at h2
    obtain ⟨⟨s, a1, a2, -⟩, -⟩ := h2
    exact absurd ⟨s, a1, a2, rfl⟩ (h1 (prc C (D 0 1) s))
theorem dmO_some {D : DT} {C C' : Nat → Nat} {m : Nat} (h : dmO D C = some m) : ∃ m', dmO D C' = some m' := by
  cases h' : dmO D C' with
  | none => rw [dmO_none h'] at h; cases h
  | some m' => exact ⟨m', rfl⟩
theorem bestExchange_ok {D : DT} {M : AM} (h : Rel D M) : ∃ M1, f_Sets_bestExchange (gR M 0 3) (gR M 39 (D 7 0)) M = some (bp (scn (xcd D) 64), M1) ∧ (∀ q, scn (xcd D) 64 = some q → gI M1 86 6 = q.1) ∧ Sm M M1 := by
  obtain ⟨n, g, M1, k1, k2, k3, k4, k5⟩ := darkL h
  have hnc := h.1.2.1
  obtain ⟨⟨w1, w2, w3, w4, w5, w6, w7⟩, hR⟩ := h.view k5
  obtain ⟨M2, c1, c2, c3⟩ := clear_ag M1
  have hC : ∀ j, j < D 0 1 → D 4 j ≤ 20 := fun j hj => (h.1.2.2.2.2.2.2.2.1 j hj).2
  have hp87 : gR M 0 3 ≠ 87 ∧ gR M 0 3 + 7 ≠ 87 := by
    have := h.2.2.1.or
    omega
  have s86 : scr 86 6 := by unfold scr; omega
  unfold f_Sets_bestExchange
  rw [k1, bnd_s, c1, bnd_s]
  generalize gR M 0 3 = p at *
  generalize gR M 39 (D 7 0) = r at *
  have hlx : ∀ N, Ag M1 N → ∀ a b, a < b → b < D 0 1 → f_Sets_leastExchanged p (nI n) (nI a) (nI b) N = some (mnI (dmO D (swp (D 4) a b)), N) := fun N hN a b hab hb =>
    leastExchanged_ok h.1 k2 (fun i hi => by rw [hN.2 89 i (by decide), hN.2 90 i (by decide)]; exact k3 i hi) k4 (fun c hc => by rw [hN.2 (p + 7) c hp87.2]; exact (w6 c hc).2) hab hb
  have hn6 : ∀ N, Ag M1 N → gI N p 6 = nI (D 0 1) := fun N hN => by rw [hN.2 p 6 hp87.1]; exact w5
  have inner : ∀ a N, a < D 0 1 → Ag M1 N → BS (scn (xcd D) (a * 8)) N → ∃ N', f_Sets_bestExchange_l109 p (nI n) (mnI (dmO D (D 4))) (nI a) fu (nI (a + 1)) N = some ((), N') ∧ Ag M1 N' ∧ BS (scn (xcd D) ((a + 1) * 8)) N' := by
    intro a N ha hN hb
    have hst : scn (xcd D) (a * 8 + (a + 1)) = scn (xcd D) (a * 8) := scn_skip' (by omega) (fun k e1 e2 => xcd_no (by omega))
    have hen : scn (xcd D) ((a + 1) * 8) = scn (xcd D) (a * 8 + D 0 1) := scn_skip' (by omega) (fun k e1 e2 => xcd_no (by omega))
    have key : ∃ o, f_Sets_bestExchange_l109 p (nI n) (mnI (dmO D (D 4))) (nI a) fu (nI (a + 1)) N = some o ∧ (Ag M1 o.2 ∧ BS (scn (xcd D) ((a + 1) * 8)) o.2) := by
      refine for_inv (fun z (s : Int32 × AM) => f_Sets_bestExchange_l109 p (nI n) (mnI (dmO D (D 4))) (nI a) z s.1 s.2) (fun b s => s.1 = nI b ∧ a < b ∧ Ag M1 s.2 ∧ BS (scn (xcd D) (a * 8 + b)) s.2) (D 0 1) _ (fun b s z hk hI => ?_) (fun s z hI => ?_) (D 0 1 - (a + 1)) (a + 1) (nI (a + 1), N) fu (by omega) (by rw [fu_eq]; omega) ⟨rfl, by omega, hN, by rw [hst]; exact hb⟩
      · obtain ⟨v, K⟩ := s
        obtain ⟨rfl, i0, i1, i2⟩ := hI
        simp only at i1 i2
        left
        have hx := xcd_at i0 hk hnc
        have hbod : f_Sets_bestExchange_l109 p (nI n) (mnI (dmO D (D 4))) (nI a) (z + 1) (nI b) K = if mnI (dmO D (D 4)) ≤ mnI (dmO D (swp (D 4) a b)) then f_Sets_bestExchange_l109 p (nI n) (mnI (dmO D (D 4))) (nI a) z (nI (b + 1)) K else bnd (f_Best_offer (mnI (dmO D (swp (D 4) a b))) (nI (a * 8 + b)) K) (fun _ K2 => f_Sets_bestExchange_l109 p (nI n) (mnI (dmO D (D 4))) (nI a) z (nI (b + 1)) K2) := by
          show f_Sets_bestExchange_b109 (f_Sets_bestExchange_l109 p (nI n) (mnI (dmO D (D 4))) (nI a) z) p (nI n) (mnI (dmO D (D 4))) (nI a) (nI b) K = _
          unfold f_Sets_bestExchange_b109
          rw [hn6 K i1, if_neg (nI_ge hk (by omega)), hlx K i1 a b i0 hk, bnd_s, nI_lit 8, pk_mul, nI_add, nI_1]
        have skip : xcd D (a * 8 + b) = none → f_Sets_bestExchange_l109 p (nI n) (mnI (dmO D (D 4))) (nI a) (z + 1) (nI b) K = f_Sets_bestExchange_l109 p (nI n) (mnI (dmO D (D 4))) (nI a) z (nI (b + 1)) K → ∃ s' : Int32 × AM, (s'.1 = nI (b + 1) ∧ a < b + 1 ∧ Ag M1 s'.2 ∧ BS (scn (xcd D) (a * 8 + (b + 1))) s'.2) ∧ f_Sets_bestExchange_l109 p (nI n) (mnI (dmO D (D 4))) (nI a) (z + 1) (nI b) K = f_Sets_bestExchange_l109 p (nI n) (mnI (dmO D (D 4))) (nI a) z s'.1 s'.2 := fun e1 e2 =>
          ⟨(nI (b + 1), K), ⟨rfl, by omega, i1, by rw [← Nat.add_assoc, scn_n e1]; exact i2⟩, e2⟩
        cases h0 : dmO D (D 4) with
        | none =>
          have h1 : dmO D (swp (D 4) a b) = none := dmO_none h0
          rw [h0] at skip hbod
          refine skip (by rw [hx, h0, h1]) ?_
          rw [hbod, h1, if_pos (by decide)]
        | some m0 =>
          obtain ⟨m, h1⟩ := dmO_some (C' := swp (D 4) a b) h0
          have l0 := dmo_lt hC hnc (k := 2 ^ D 0 1) h0
          have l1 := dmo_lt (swp_le (a := a) (b := b) (by omega) hk hC) hnc (k := 2 ^ D 0 1) h1
          rw [h0, h1] at hx
          rw [h0] at skip hbod
          rw [h1] at hbod
          by_cases hm : m < m0
          · have hx' : xcd D (a * 8 + b) = some (nI m) := by rw [hx]; exact if_pos hm
            obtain ⟨K2, f1, f2, f3⟩ := offer_ag i2 (nI m) (p := a * 8 + b) (by omega)
            refine ⟨(nI (b + 1), K2), ⟨rfl, by omega, i1.trans f3, by rw [← Nat.add_assoc, ← off_scn hx']; exact f2⟩, ?_⟩
            show f_Sets_bestExchange_l109 p (nI n) (mnI (some m0)) (nI a) (z + 1) (nI b) K = _
            rw [hbod, if_neg (show ¬ mnI (some m0) ≤ mnI (some m) from nI_ge hm (by omega))]
            show bnd (f_Best_offer (nI m) (nI (a * 8 + b)) K) _ = _
            rw [f1, bnd_s]
          · refine skip (by rw [hx]; exact if_neg hm) ?_
            rw [hbod, if_pos (show mnI (some m0) ≤ mnI (some m) from nI_le (by omega) (by omega))]
      · obtain ⟨v, K⟩ := s
        obtain ⟨rfl, i0, i1, i2⟩ := hI
        simp only at i1 i2
        refine ⟨((), K), ?_, i1, by rw [hen]; exact i2⟩
        show f_Sets_bestExchange_b109 (f_Sets_bestExchange_l109 p (nI n) (mnI (dmO D (D 4))) (nI a) z) p (nI n) (mnI (dmO D (D 4))) (nI a) (nI (D 0 1)) K = _
        unfold f_Sets_bestExchange_b109
        rw [hn6 K i1, if_pos (nI_le (Nat.le_refl _) (by omega))]
    obtain ⟨⟨u, N'⟩, q1, q2, q3⟩ := key
    exact ⟨N', q1, q2, q3⟩
  have outer : ∃ o, f_Sets_bestExchange_l94 p (nI n) (mnI (dmO D (D 4))) fu (nI 0) M2 = some o ∧ (Ag M1 o.2 ∧ BS (scn (xcd D) 64) o.2) := by
    have hen : scn (xcd D) 64 = scn (xcd D) (D 0 1 * 8) := scn_skip' (by omega) (fun k e1 e2 => xcd_no (by omega))
    refine for_inv (fun z (s : Int32 × AM) => f_Sets_bestExchange_l94 p (nI n) (mnI (dmO D (D 4))) z s.1 s.2) (fun a s => s.1 = nI a ∧ Ag M1 s.2 ∧ BS (scn (xcd D) (a * 8)) s.2) (D 0 1) _ (fun a s z hk hI => ?_) (fun s z hI => ?_) (D 0 1) 0 (nI 0, M2) fu (by omega) (by rw [fu_eq]; omega) ⟨rfl, c3, c2⟩
    · obtain ⟨v, K⟩ := s
      obtain ⟨rfl, i1, i2⟩ := hI
      simp only at i1 i2
      left
      obtain ⟨K', q1, q2, q3⟩ := inner a K hk i1 i2
      refine ⟨(nI (a + 1), K'), ⟨rfl, q2, q3⟩, ?_⟩
      show f_Sets_bestExchange_b94 (f_Sets_bestExchange_l94 p (nI n) (mnI (dmO D (D 4))) z) p (nI n) (mnI (dmO D (D 4))) (nI a) K = _
      unfold f_Sets_bestExchange_b94
      rw [hn6 K i1, if_neg (nI_ge hk (by omega)), nI_1, q1, bnd_s]
    · obtain ⟨v, K⟩ := s
      obtain ⟨rfl, i1, i2⟩ := hI
      simp only at i1 i2
      refine ⟨((), K), ?_, i1, by rw [hen]; exact i2⟩
      show f_Sets_bestExchange_b94 (f_Sets_bestExchange_l94 p (nI n) (mnI (dmO D (D 4))) z) p (nI n) (mnI (dmO D (D 4))) (nI (D 0 1)) K = _
      unfold f_Sets_bestExchange_b94
      rw [hn6 K i1, if_pos (nI_le (Nat.le_refl _) (by omega))]
  obtain ⟨⟨u, M3⟩, q1, q2, q3⟩ := outer
  simp only at q2 q3
  refine ⟨sI M3 86 6 (gI M3 87 0), ?_, fun q e => ?_, ((k5.trans q2.sm).sI s86)⟩
  · show bnd (f_Sets_bestExchange_l94 p (nI n) (mnI (dmO D (D 4))) fu 0 M2) _ = _
    rw [nI_0] at q1
    rw [q1, bnd_s, wI_eq, gI_sI, if_neg (by omega), q3.1]
  · rw [gI_sI, if_pos ⟨rfl, rfl⟩]
    exact (q3.2 q e).1
