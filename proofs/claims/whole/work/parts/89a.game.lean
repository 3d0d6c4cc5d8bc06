/-! the game -/
/-- only the class's Best has changed -/
def Ag (M N : AM) : Prop := (∀ c k, gR N c k = gR M c k) ∧ ∀ c k, c ≠ 87 → gI N c k = gI M c k
theorem Ag.rfl' {M : AM} : Ag M M := ⟨fun _ _ => rfl, fun _ _ _ => rfl⟩
theorem Ag.trans {M M1 M2 : AM} (h : Ag M M1) (h2 : Ag M1 M2) : Ag M M2 := ⟨fun c k => (h2.1 c k).trans (h.1 c k), fun c k q => (h2.2 c k q).trans (h.2 c k q)⟩
theorem Ag.sm {M N : AM} (h : Ag M N) : Sm M N := ⟨h.1, fun c k q => h.2 c k (fun e => q (by rw [e]; exact scr87 k))⟩
theorem Ag.sI {M N : AM} (h : Ag M N) (k : Nat) (v : Int32) : Ag M (sI N 87 k v) := ⟨h.1, fun a b q => by rw [gI_sI, if_neg (fun z => q z.1)]; exact h.2 a b q⟩
theorem clear_ag (M : AM) : ∃ M', f_Best_clear M = some ((), M') ∧ BS none M' ∧ Ag M M' :=
  ⟨sI (sI M 87 0 0) 87 1 (-1), rfl, ⟨rfl, fun q h => by cases h⟩, (Ag.rfl'.sI 0 _).sI 1 _⟩
theorem offer_ag {o : Option (Int32 × Nat)} {M : AM} (h : BS o M) (x : Int32) {p : Nat} (hp : p < 2 ^ 31) : ∃ M', f_Best_offer x (nI p) M = some ((), M') ∧ BS (off o x p) M' ∧ Ag M M' := by
  obtain ⟨M', h1, h2, -⟩ := offer_ok h x hp
  refine ⟨M', h1, h2, ?_⟩
  unfold f_Best_offer f_Best_offer_j31 at h1
  have hw : Ag M (sI (sI M 87 0 x) 87 1 (nI p)) := (Ag.rfl'.sI 0 _).sI 1 _
  have e1 : wI M 87 0 x (fun M1 => wI M1 87 1 (nI p) (fun M2 => some ((), M2))) = some ((), sI (sI M 87 0 x) 87 1 (nI p)) := rfl
  have fin : ∀ N : AM, (some ((), N) : Option (Unit × AM)) = some ((), M') → Ag M N → Ag M M' := fun N e q => by cases e; exact q
  by_cases c1 : gI M 87 1 < 0
  · rw [if_pos c1] at h1
    exact fin _ h1 hw
  · rw [if_neg c1] at h1
    by_cases c2 : x < gI M 87 0
    · rw [if_pos c2] at h1
      exact fin _ h1 hw
    · rw [if_neg c2] at h1
      by_cases c3 : x = gI M 87 0
      · rw [if_pos c3] at h1
        by_cases c4 : gI M 87 1 ≤ nI p
        · rw [if_pos c4] at h1
          exact fin _ h1 Ag.rfl'
        · rw [if_neg c4] at h1
          exact fin _ h1 hw
      · rw [if_neg c3] at h1
        exact fin _ h1 Ag.rfl'
theorem off_scn {cand : Nat → Option Int32} {k : Nat} {x : Int32} (h : cand k = some x) : off (scn cand k) x k = scn cand (k + 1) := by
  cases hs : scn cand k with
  | none => rw [scn_0 h hs]; rfl
  | some q =>
    obtain ⟨s, p⟩ := q
    have := (scn_in hs).1
    rw [scn_1 h hs]
    show (if x < s ∨ (x = s ∧ k < p) then _ else _) = _
    by_cases hx : x < s
    · rw [if_pos (Or.inl hx), if_pos hx]
    · rw [if_neg (fun q => q.elim hx (fun q => by omega)), if_neg hx]
/-- a loop that offers numbers in their order, and does nothing else -/
theorem best87 {M M0 : AM} (L : Nat → Int32 → AM → Option (Unit × AM)) (n : Nat) (cand : Nat → Option Int32) (hn : n < 100000) (hag : Ag M M0) (hb : BS none M0)
    (stepN : ∀ k z N, k < n → Ag M N → cand k = none → L (z + 1) (nI k) N = L z (nI (k + 1)) N)
    (stepS : ∀ k z N x, k < n → Ag M N → cand k = some x → L (z + 1) (nI k) N = bnd (f_Best_offer x (nI k) N) (fun _ N2 => L z (nI (k + 1)) N2))
    (stop : ∀ z N, Ag M N → L (z + 1) (nI n) N = some ((), N)) :
    ∃ M1, BS (scn cand n) M1 ∧ L fu (nI 0) M0 = some ((), M1) ∧ Ag M M1 := by
  have key : ∃ r, L fu (nI 0) M0 = some r ∧ (BS (scn cand n) r.2 ∧ Ag M r.2) := by
    refine for_inv (fun z (s : Int32 × AM) => L z s.1 s.2) (fun k s => s.1 = nI k ∧ Ag M s.2 ∧ BS (scn cand k) s.2) n _ (fun k s z hk hI => ?_) (fun s z hI => ?_) n 0 (nI 0, M0) fu (by omega) (by rw [fu_eq]; omega) ⟨rfl, hag, hb⟩
    · obtain ⟨v, N⟩ := s
      obtain ⟨rfl, i1, i2⟩ := hI
      simp only at i1 i2
      left
      cases hc : cand k with
      | none => exact ⟨(nI (k + 1), N), ⟨rfl, i1, by rw [scn_n hc]; exact i2⟩, stepN k z N hk i1 hc⟩
      | some x =>
        obtain ⟨N2, f1, f2, f3⟩ := offer_ag i2 x (p := k) (by omega)
        refine ⟨(nI (k + 1), N2), ⟨rfl, i1.trans f3, by rw [← off_scn hc]; exact f2⟩, ?_⟩
        show L (z + 1) (nI k) N = _
        rw [stepS k z N x hk i1 hc, f1, bnd_s]
    · obtain ⟨v, N⟩ := s
      obtain ⟨rfl, i1, i2⟩ := hI
      exact ⟨((), N), stop z N i1, i2, i1⟩
  obtain ⟨⟨u, M1⟩, k1, k2, k3⟩ := key
  exact ⟨M1, k2, k1, k3⟩
/-- what a set is worth to who pulls next -/
def vlo : Option (Int32 × Nat) → Int32
  | none => 0
  | some q => -q.1
def gcd' (D : DT) (R : Nat → Int32 × Int32) (s c : Nat) : Option Int32 := if (frN (D 0 1) (D (10 + D 7 0) 1)).testBit c = true ∧ s.testBit c = false then some (if D (10 + D 7 0) 0 ^^^ xt (D 3) (D 0 1) (s ^^^ 2 ^ c) = 0 then -1 else (R (s ^^^ 2 ^ c)).1) else none
def gnw (D : DT) (R : Nat → Int32 × Int32) (s : Nat) : Int32 × Int32 := (vlo (scn (gcd' D R s) (D 0 1)), bp (scn (gcd' D R s) (D 0 1)))
def grw (D : DT) : Nat → Nat → Int32 × Int32
  | 0, _ => (0, -1)
  | r + 1, s => if s = frN (D 0 1) (D (10 + D 7 0) 1) - r ∧ s &&& frN (D 0 1) (D (10 + D 7 0) 1) = s then gnw D (grw D r) s else grw D r s
theorem grw_s (D : DT) (r s : Nat) : grw D (r + 1) s = if s = frN (D 0 1) (D (10 + D 7 0) 1) - r ∧ s &&& frN (D 0 1) (D (10 + D 7 0) 1) = s then gnw D (grw D r) s else grw D r s := rfl
def tri (x : Int32) : Prop := x = -1 ∨ x = 0 ∨ x = 1
theorem tri_neg {x : Int32} (h : tri x) : tri (-x) := by
  rcases h with rfl | rfl | rfl
  · exact Or.inr (Or.inr (by decide))
  · exact Or.inr (Or.inl (by decide))
  · exact Or.inl (by decide)
theorem tri_lt {x y : Int32} (hx : tri x) (hy : tri y) : -x < -y ↔ y < x := by
  rcases hx with rfl | rfl | rfl <;> rcases hy with rfl | rfl | rfl <;> decide
theorem gcd_tri {D : DT} {R : Nat → Int32 × Int32} (hR : ∀ s, tri (R s).1) {s c : Nat} {x : Int32} (h : gcd' D R s c = some x) : tri x := by
  unfold gcd' at h
  by_cases q : (frN (D 0 1) (D (10 + D 7 0) 1)).testBit c = true ∧ s.testBit c = false
  · rw [if_pos q] at h
    cases h
    split
    · exact Or.inl rfl
    · exact hR _
  · rw [if_neg q] at h; cases h
theorem vlo_tri {D : DT} {R : Nat → Int32 × Int32} (hR : ∀ s, tri (R s).1) (s n : Nat) : tri (vlo (scn (gcd' D R s) n)) := by
  cases hs : scn (gcd' D R s) n with
  | none => exact Or.inr (Or.inl rfl)
  | some q =>
    obtain ⟨x, p⟩ := q
    exact tri_neg (gcd_tri hR (scn_in hs).2)
theorem grw_tri (D : DT) : ∀ r s, tri (grw D r s).1 := by
  intro r
  induction r with
  | zero => intro s; exact Or.inr (Or.inl rfl)
  | succ r ih =>
    intro s
    rw [grw_s]
    split
    · exact vlo_tri ih s _
    · exact ih s
theorem hi_I : ∀ j, j < 8 → ∀ m, m < 256 → m.testBit j = true → nI m ||| ((1 : Int32) <<< (nI j &&& 31)) = nI m := by decide +kernel
theorem up_gt : ∀ c, c < 8 → ∀ s, s < 256 → s.testBit c = false → s < s ^^^ 2 ^ c := by decide +kernel
theorem up_sub {s c F : Nat} (h : s &&& F = s) (hF : F.testBit c = true) : (s ^^^ 2 ^ c) &&& F = s ^^^ 2 ^ c := and_xor' h (by rw [Nat.and_comm, and_2]; exact hF)
/-- the row of values of the class behind r sets -/
def GV (D : DT) (r : Nat) (N : AM) : Prop := ∀ s, s &&& frN (D 0 1) (D (10 + D 7 0) 1) = s → frN (D 0 1) (D (10 + D 7 0) 1) - s < r → gI N 88 s = (grw D r s).1
theorem valueBehind_ok {D : DT} {M N : AM} (h : Rel D M) (hN : Sm M N) {r s : Nat} (hs : s &&& frN (D 0 1) (D (10 + D 7 0) 1) = s) (hr : frN (D 0 1) (D (10 + D 7 0) 1) - s = r) (hV : GV D r N) : ∃ N1, f_Sets_valueBehind (gR M 0 3) (gR M 39 (D 7 0)) (nI s) N = some ((gnw D (grw D r) s).1, N1) ∧ gI N1 86 5 = (gnw D (grw D r) s).2 ∧ (∀ c k, gR N1 c k = gR N c k) ∧ ∀ c k, c ≠ 87 → ¬ (c = 86 ∧ k = 5) → gI N1 c k = gI N c k := by
  have hR := h.sm hN
  have hnc := h.1.2.1
  have h256 := p2_le h.1.2.1
  have h256l := p2_le h.1.1
  have hfr := h.fr'
  have htb := fr_tball h
  have htd := h.tied'
  have hsF := sub_le hs
  have hx : ∀ s, D (10 + D 7 0) 0 ^^^ xt (D 3) (D 0 1) s < 256 := fun s => Nat.lt_of_lt_of_le (Nat.xor_lt_two_pow h.pic (xt_lt h.1 s _ (Nat.le_refl _))) h256l
  obtain ⟨⟨v1, v2, v3, v4, v5, v6, v7⟩, -⟩ := h.view hN
  obtain ⟨N0, c1, c2, c3⟩ := clear_ag N
  have hpq : gR M 0 3 ≠ 87 ∧ gR M 0 3 + 8 ≠ 87 ∧ gR M 39 (D 7 0) ≠ 87 := by
    have := h.2.2.1.or
    have := h.cell
    omega
  generalize gR M 0 3 = p at *
  generalize gR M 39 (D 7 0) = q at *
  have key := best87 (M := N) (M0 := N0) (f_Sets_valueBehind_l10 p q (nI s)) (D 0 1) (gcd' D (grw D r) s) (by omega) c3 c2
    (fun k z K hk hK hc => by
      show f_Sets_valueBehind_b10 (f_Sets_valueBehind_l10 p q (nI s) z) p q (nI s) (nI k) K = _
      have hno : ¬ (s ||| D (10 + D 7 0) 1).testBit k = false := fun e => by
        rw [Nat.testBit_or, Bool.or_eq_false_iff] at e
        unfold gcd' at hc
        rw [if_pos ⟨by rw [htb, e.2]; simp [hk], e.1⟩] at hc
        cases hc
      have hor : s ||| D (10 + D 7 0) 1 < 256 := Nat.or_lt_two_pow (n := 8) (show s < 256 by omega) htd
      unfold f_Sets_valueBehind_b10
      rw [hK.2 p 6 hpq.1, v5, if_neg (nI_ge hk (by omega)), hK.2 q 1 hpq.2.2, v3, nx_or, if_neg (fun e => hno ((an_I k (by omega) _ hor).mp e)), nI_1])
    (fun k z K x hk hK hc => by
      show f_Sets_valueBehind_b10 (f_Sets_valueBehind_l10 p q (nI s) z) p q (nI s) (nI k) K = _
      have hyes : ((frN (D 0 1) (D (10 + D 7 0) 1)).testBit k = true ∧ s.testBit k = false) ∧ x = if D (10 + D 7 0) 0 ^^^ xt (D 3) (D 0 1) (s ^^^ 2 ^ k) = 0 then -1 else (grw D r (s ^^^ 2 ^ k)).1 := by
        unfold gcd' at hc
        by_cases e : (frN (D 0 1) (D (10 + D 7 0) 1)).testBit k = true ∧ s.testBit k = false
        · rw [if_pos e] at hc; cases hc; exact ⟨e, rfl⟩
        · rw [if_neg e] at hc; cases hc
      obtain ⟨⟨y1, y2⟩, rfl⟩ := hyes
      have y3 : (D (10 + D 7 0) 1).testBit k = false := by
        rw [htb] at y1; simp at y1; exact y1.2
      have hor : s ||| D (10 + D 7 0) 1 < 256 := Nat.or_lt_two_pow (n := 8) (show s < 256 by omega) htd
      have hup := up_sub hs y1
      have hgt := up_gt k (by omega) s (by omega) y2
      have hle := sub_le hup
      have hlt : s ^^^ 2 ^ k < 2 ^ D 0 1 := ((sub_fr hR _).mp hup).1
      have hgv : gI K 88 (s ^^^ 2 ^ k) = (grw D r (s ^^^ 2 ^ k)).1 := by rw [hK.2 88 _ (by decide)]; exact hV _ hup (by omega)
      unfold f_Sets_valueBehind_b10 f_Sets_valueBehind_j59 f_Sets_valueBehind_j83
      rw [hK.2 p 6 hpq.1, v5, if_neg (nI_ge hk (by omega)), hK.2 q 1 hpq.2.2, v3, nx_or, if_pos ((an_I k (by omega) _ hor).mpr (by rw [Nat.testBit_or, y2, y3]; rfl)), lo_I k (by omega) s (by omega) y2, ald_nI (by omega) (by decide), hK.2 (p + 8) _ hpq.2.1, v4 _ hlt, hK.2 q 0 hpq.2.2, v2, nx_xor, ald_nI (by omega) (by decide), hgv, nI_1]
      have hxk := hx (s ^^^ 2 ^ k)
      by_cases e : D (10 + D 7 0) 0 ^^^ xt (D 3) (D 0 1) (s ^^^ 2 ^ k) = 0
      · rw [if_pos (by rw [e]; rfl), if_neg (by decide), if_pos e]
      · rw [if_neg (nI_ne0 (by omega) (by omega)), if_pos rfl, if_neg e])
    (fun z K hK => by
      show f_Sets_valueBehind_b10 (f_Sets_valueBehind_l10 p q (nI s) z) p q (nI s) (nI (D 0 1)) K = _
      unfold f_Sets_valueBehind_b10
      rw [hK.2 p 6 hpq.1, v5, if_pos (nI_le (Nat.le_refl _) (by omega))])
  obtain ⟨N1, k1, k2, k3⟩ := key
  refine ⟨sI N1 86 5 (bp (scn (gcd' D (grw D r) s) (D 0 1))), ?_, rfl, k3.1, fun c k e1 e2 => by rw [gI_sI, if_neg e2]; exact k3.2 c k e1⟩
  unfold f_Sets_valueBehind
  rw [nI_0] at k2
  rw [c1, bnd_s, k2, bnd_s, wI_eq]
  have e87 : ∀ j, gI (sI N1 86 5 (gI N1 87 1)) 87 j = gI N1 87 j := fun j => by rw [gI_sI, if_neg (by omega)]
  rw [e87, e87, k1.1]
  unfold gnw
  cases hsc : scn (gcd' D (grw D r) s) (D 0 1) with
  | none => rw [if_neg bp_none]; rfl
  | some w =>
    obtain ⟨x, pk⟩ := w
    rw [hsc] at k1
    have := (scn_in hsc).1
    rw [if_pos (bp_some (s := x) (by omega)), (k1.2 _ rfl).1]
    rfl
def dwn (F r : Nat) : Int32 := if r ≤ F then nI (F - r) else -1
theorem dwn_s {F r : Nat} (h : r ≤ F) : nI (F - r) + (-1) = dwn F (r + 1) := by
  unfold dwn
  by_cases e : r + 1 ≤ F
  · rw [if_pos e, show F - r = (F - (r + 1)) + 1 by omega, pk_m1]
  · rw [if_neg e, show F - r = 0 by omega]; rfl
theorem play_ok {D : DT} {M : AM} (h : Rel D M) : ∃ M1, f_Sets_play (gR M 0 3) (gR M 39 (D 7 0)) M = some ((grw D (frN (D 0 1) (D (10 + D 7 0) 1) + 1) 0).1, M1) ∧ gI M1 86 5 = (grw D (frN (D 0 1) (D (10 + D 7 0) 1) + 1) 0).2 ∧ Sm M M1 := by
  have hnc := h.1.2.1
  have hfr := h.fr'
  have hFI : nI (2 ^ D 0 1 - 1) &&& (nI (D (10 + D 7 0) 1) ^^^ (-1)) = nI (frN (D 0 1) (D (10 + D 7 0) 1)) := by
    have := fr_I (D 0 1) (by omega) _ h.tied' h.tied
    rw [nx_one _ (by omega), nI_sub1 (p2_pos _)] at this
    exact this
  have hvb := fun (N : AM) (hN : Sm M N) (r s : Nat) => valueBehind_ok h hN (r := r) (s := s)
  obtain ⟨⟨v1, v2, v3, v4, v5, v6, v7⟩, -⟩ := h.view Sm.rfl'
  have s86 : scr 86 5 := by unfold scr; omega
  have s88 : ∀ j, scr 88 j := fun j => by unfold scr; omega
  generalize gR M 0 3 = p at *
  generalize gR M 39 (D 7 0) = q at *
  generalize hF : frN (D 0 1) (D (10 + D 7 0) 1) = F at *
  have key : ∃ o, f_Sets_play_l20 p q (nI F) fu (nI F) (sI M 86 5 (-1)) = some o ∧ (Sm M o.2 ∧ GV D (F + 1) o.2 ∧ gI o.2 86 5 = (grw D (F + 1) 0).2) := by
    refine for_inv (fun z (s : Int32 × AM) => f_Sets_play_l20 p q (nI F) z s.1 s.2) (fun r s => s.1 = dwn F r ∧ Sm M s.2 ∧ GV D r s.2 ∧ (r = F + 1 → gI s.2 86 5 = (grw D (F + 1) 0).2)) (F + 1) _ (fun r s z hr hI => ?_) (fun s z hI => ?_) (F + 1) 0 (nI F, sI M 86 5 (-1)) fu (by omega) (by rw [fu_eq]; omega) ⟨by unfold dwn; rw [if_pos (Nat.zero_le _), Nat.sub_zero], Sm.rfl'.sI s86, fun s _ q => by omega, fun q => by omega⟩
    · obtain ⟨v, N⟩ := s
      obtain ⟨i0, i1, i2, i3⟩ := hI
      simp only at i0 i1 i2
      subst i0
      left
      have hd : dwn F r = nI (F - r) := if_pos (by omega)
      by_cases hs : (F - r) &&& F = F - r
      · obtain ⟨N1, w1, w2, w3, w4⟩ := hvb N i1 r (F - r) hs (by omega) i2
        have hgs : grw D (r + 1) (F - r) = gnw D (grw D r) (F - r) := by rw [grw_s, hF, if_pos ⟨rfl, hs⟩]
        refine ⟨(dwn F (r + 1), sI N1 88 (F - r) (gnw D (grw D r) (F - r)).1), ⟨rfl, ⟨fun c k => (w3 c k).trans (i1.1 c k), fun c k e => ?_⟩, fun s hs1 hs2 => ?_, fun e => ?_⟩, ?_⟩
        · show gI (sI _ _ _ _) c k = _
          rw [gI_sI, if_neg (fun z => e (by rw [z.1]; exact s88 k)), w4 c k (fun z => e (by rw [z]; exact scr87 k)) (fun z => e (by rw [z.1, z.2]; exact s86)), i1.2 c k e]
        · show gI (sI _ _ _ _) 88 s = _
          rw [hF] at hs1 hs2
          have hle := sub_le hs1
          rw [gI_sI]
          by_cases e : s = F - r
          · rw [if_pos ⟨rfl, e⟩, e, hgs]
          · rw [if_neg (fun z => e z.2), w4 88 s (by decide) (by omega), grw_s, hF, if_neg (fun z => e z.1)]
            exact i2 s (by rw [hF]; exact hs1) (by rw [hF]; omega)
        · show gI (sI _ _ _ _) 86 5 = _
          have er : r = F := by omega
          rw [gI_sI, if_neg (by omega), w2, ← hgs, er, Nat.sub_self]
        · show f_Sets_play_l20 p q (nI F) (z + 1) (dwn F r) N = _
          rw [hd]
          show f_Sets_play_b20 (f_Sets_play_l20 p q (nI F) z) p q (nI F) (nI (F - r)) N = _
          unfold f_Sets_play_b20
          rw [if_neg (nI_pos (by omega)), if_pos ((within_bits (by omega) hfr).mpr hs), w1, bnd_s, ast_nI (by omega) (by decide), dwn_s (by omega)]
      · refine ⟨(dwn F (r + 1), N), ⟨rfl, i1, fun s hs1 hs2 => ?_, fun e => ?_⟩, ?_⟩
        · rw [hF] at hs1 hs2
          have hle := sub_le hs1
          have e : ¬ s = F - r := fun e => hs (by rw [← e]; exact hs1)
          show gI N 88 s = _
          rw [grw_s, hF, if_neg (fun z => e z.1)]
          exact i2 s (by rw [hF]; exact hs1) (by rw [hF]; omega)
        · exfalso
          have er : r = F := by omega
          rw [er, Nat.sub_self, Nat.zero_and] at hs
          exact hs rfl
        · show f_Sets_play_l20 p q (nI F) (z + 1) (dwn F r) N = _
          rw [hd]
          show f_Sets_play_b20 (f_Sets_play_l20 p q (nI F) z) p q (nI F) (nI (F - r)) N = _
          unfold f_Sets_play_b20
          rw [if_neg (nI_pos (by omega)), if_neg (fun e => hs ((within_bits (by omega) hfr).mp e)), dwn_s (by omega)]
    · obtain ⟨v, N⟩ := s
      obtain ⟨i0, i1, i2, i3⟩ := hI
      simp only at i0 i1 i2 i3
      subst i0
      refine ⟨((), N), ?_, i1, i2, i3 trivial⟩
      show f_Sets_play_b20 (f_Sets_play_l20 p q (nI F) z) p q (nI F) (dwn F (F + 1)) N = _
      have hd : dwn F (F + 1) = -1 := if_neg (by omega)
      unfold f_Sets_play_b20
      rw [hd, if_pos (by decide)]
  obtain ⟨⟨u, M1⟩, k1, k2, k3, k4⟩ := key
  refine ⟨M1, ?_, k4, k2⟩
  unfold f_Sets_play
  rw [v1, bnd_s, wI_eq, v3, hFI, k1, bnd_s]
  rw [show (0 : Int32) = nI 0 from rfl, ald_nI (by decide) (by decide), k3 0 (by rw [Nat.zero_and]) (by rw [hF]; omega)]
/-- the rows of the reference behind r sets -/
def GM (D : DT) (r : Nat) (N : AM) : Prop := ∀ s, s &&& frN (D 0 1) (D (10 + D 7 0) 1) = s → frN (D 0 1) (D (10 + D 7 0) 1) - s < r → gI N 129 s = (grw D r s).1 ∧ gI N 130 s = (grw D r s).2
theorem layGameL {D : DT} {M N : AM} (h : Rel D M) (hN : Sm M N) {r s : Nat} (hs : s &&& frN (D 0 1) (D (10 + D 7 0) 1) = s) (hr : frN (D 0 1) (D (10 + D 7 0) 1) - s = r) (hV : GM D r N) (h0 : gI N 129 s = 0) (h1 : gI N 130 s = -1) : ∃ N1, f_Mo_layGame_l38 (nI (frN (D 0 1) (D (10 + D 7 0) 1))) (nI s) fu 0 N = some ((), N1) ∧ gI N1 129 s = (gnw D (grw D r) s).1 ∧ gI N1 130 s = (gnw D (grw D r) s).2 ∧ (∀ c k, gR N1 c k = gR N c k) ∧ ∀ c k, ¬ ((c = 129 ∨ c = 130) ∧ k = s) → gI N1 c k = gI N c k := by
  have hnc := h.1.2.1
  have h256 := p2_le h.1.2.1
  have h256l := p2_le h.1.1
  have hfr := h.fr'
  have hsF := sub_le hs
  have hx : ∀ s, D (10 + D 7 0) 0 ^^^ xt (D 3) (D 0 1) s < 256 := fun s => Nat.lt_of_lt_of_le (Nat.xor_lt_two_pow h.pic (xt_lt h.1 s _ (Nat.le_refl _))) h256l
  have s129 : ∀ j, scr 129 j ∧ scr 130 j := fun j => by unfold scr; omega
  have htri := grw_tri D r
  have hRN := h.sm hN
  have hws : ∀ t, t &&& frN (D 0 1) (D (10 + D 7 0) 1) = t → t < 2 ^ D 0 1 := fun t ht => ((sub_fr h t).mp ht).1
  generalize hF : frN (D 0 1) (D (10 + D 7 0) 1) = F at *
  generalize hG : gcd' D (grw D r) s = G at *
  have hGs : ∀ k x, G k = some x → (F.testBit k = true ∧ s.testBit k = false) ∧ x = if D (10 + D 7 0) 0 ^^^ xt (D 3) (D 0 1) (s ^^^ 2 ^ k) = 0 then -1 else (grw D r (s ^^^ 2 ^ k)).1 := fun k x hc => by
    rw [← hG] at hc
    unfold gcd' at hc
    rw [hF] at hc
    by_cases e : F.testBit k = true ∧ s.testBit k = false
    · rw [if_pos e] at hc; cases hc; exact ⟨e, rfl⟩
    · rw [if_neg e] at hc; cases hc
  have hGn : ∀ k, G k = none → ¬ (F.testBit k = true ∧ s.testBit k = false) := fun k hc e => by
    rw [← hG] at hc
    unfold gcd' at hc
    rw [hF, if_pos e] at hc
    cases hc
  have hGt : ∀ k x, G k = some x → tri x := fun k x hc => gcd_tri htri (by rw [hG]; exact hc)
  have hvt : ∀ n, tri (vlo (scn G n)) := fun n => by rw [← hG]; exact vlo_tri htri s n
  have key : ∃ o, f_Mo_layGame_l38 (nI F) (nI s) fu 0 N = some o ∧ (gI o.2 129 s = vlo (scn G (D 0 1)) ∧ gI o.2 130 s = bp (scn G (D 0 1)) ∧ (∀ c k, gR o.2 c k = gR N c k) ∧ ∀ c k, ¬ ((c = 129 ∨ c = 130) ∧ k = s) → gI o.2 c k = gI N c k) := by
    refine for_inv (fun z (t : Int32 × AM) => f_Mo_layGame_l38 (nI F) (nI s) z t.1 t.2) (fun j t => t.1 = nI j ∧ gI t.2 129 s = vlo (scn G j) ∧ gI t.2 130 s = bp (scn G j) ∧ (∀ c k, gR t.2 c k = gR N c k) ∧ ∀ c k, ¬ ((c = 129 ∨ c = 130) ∧ k = s) → gI t.2 c k = gI N c k) (D 0 1) _ (fun j t z hj hI => ?_) (fun t z hI => ?_) (D 0 1) 0 (0, N) fu (by omega) (by rw [fu_eq]; omega) ⟨rfl, h0, h1, fun _ _ => rfl, fun _ _ _ => rfl⟩
    · obtain ⟨v, K⟩ := t
      obtain ⟨rfl, i1, i2, i3, i4⟩ := hI
      simp only at i1 i2 i3 i4
      left
      have hK : Sm M K := ⟨fun c k => (i3 c k).trans (hN.1 c k), fun c k e => by
        rw [i4 c k (fun z => e (by rcases z with ⟨z | z, -⟩ <;> rw [z]; exact (s129 k).1; exact (s129 k).2)), hN.2 c k e]⟩
      have hR := h.sm hK
      have hm5 : gI K 105 42 = nI (D 0 1) := hR.2.2.2.2.2.1.1.2.2.1
      by_cases y2 : s.testBit j = true
      · have hc : G j = none := by
          cases hc : G j with
          | none => rfl
          | some x => have := (hGs j x hc).1.2; rw [y2] at this; cases this
        refine ⟨(nI (j + 1), K), ⟨rfl, by rw [scn_n hc]; exact i1, by rw [scn_n hc]; exact i2, i3, i4⟩, ?_⟩
        show f_Mo_layGame_b38 (f_Mo_layGame_l38 (nI F) (nI s) z) (nI F) (nI s) (nI j) K = _
        unfold f_Mo_layGame_b38
        rw [hm5, if_neg (nI_ge hj (by omega)), hi_I j (by omega) s (by omega) y2, if_pos rfl, nI_1]
      · have y2' : s.testBit j = false := by simpa using y2
        have hgt := up_gt j (by omega) s (by omega) y2'
        have hne : ¬ nI (s ^^^ 2 ^ j) = nI s := fun e => by
          have := (nI_eq (by have := x2_lt (m := s) (by omega) (show j < 8 by omega); omega) (by omega)).mp e
          omega
        have hx2 := x2_lt (m := s) (by omega) (show j < 8 by omega)
        by_cases y1 : F.testBit j = true
        · have hup := up_sub hs y1
          have hle := sub_le hup
          have hlt : s ^^^ 2 ^ j < 2 ^ D 0 1 := hws _ hup
          have hxk := hx (s ^^^ 2 ^ j)
          have hgv : gI K 129 (s ^^^ 2 ^ j) = (grw D r (s ^^^ 2 ^ j)).1 := by
            rw [i4 129 _ (fun z => by omega)]
            exact (hV _ (by rw [hF]; exact hup) (by rw [hF]; omega)).1
          obtain ⟨x, hc⟩ : ∃ x, G j = some x := by
            cases hc : G j with
            | none => exact absurd ⟨y1, y2'⟩ (hGn j hc)
            | some x => exact ⟨x, rfl⟩
          have hxe := (hGs j x hc).2
          have hxt := hGt j x hc
          have hb : f_Mo_layGame_l38 (nI F) (nI s) (z + 1) (nI j) K = f_Mo_layGame_j99 (f_Mo_layGame_l38 (nI F) (nI s) z) (nI F) (nI s) (nI j) (-x) K := by
            show f_Mo_layGame_b38 (f_Mo_layGame_l38 (nI F) (nI s) z) (nI F) (nI s) (nI j) K = _
            unfold f_Mo_layGame_b38
            rw [hm5, if_neg (nI_ge hj (by omega)), lo_I j (by omega) s (by omega) y2', if_neg hne, isWithin_ok (by omega) hfr, bnd_s, if_pos hup, if_neg (by decide), now_ald hR 0 0 rfl (by decide), turnedBy_ok hR (by omega), bnd_s, nx_xor, ald_nI (by omega) (by decide), hgv, hxe]
            by_cases e : D (10 + D 7 0) 0 ^^^ xt (D 3) (D 0 1) (s ^^^ 2 ^ j) = 0
            · rw [if_pos (by rw [e]; rfl), if_pos e]; rfl
            · rw [if_neg (nI_ne0 (by omega) (by omega)), if_neg e]
          have hup2 : f_Mo_layGame_j124 (f_Mo_layGame_l38 (nI F) (nI s) z) (nI F) (nI s) (nI j) (-x) K = f_Mo_layGame_l38 (nI F) (nI s) z (nI (j + 1)) (sI (sI K 129 s (-x)) 130 s (nI j)) := by
            unfold f_Mo_layGame_j124
            rw [ast_nI (by omega) (by decide), ast_nI (by omega) (by decide), nI_1]
          have wr : ∀ o, scn G (j + 1) = some o → o = (x, j) → f_Mo_layGame_l38 (nI F) (nI s) (z + 1) (nI j) K = f_Mo_layGame_l38 (nI F) (nI s) z (nI (j + 1)) (sI (sI K 129 s (-x)) 130 s (nI j)) → ∃ t : Int32 × AM, (t.1 = nI (j + 1) ∧ gI t.2 129 s = vlo (scn G (j + 1)) ∧ gI t.2 130 s = bp (scn G (j + 1)) ∧ (∀ c k, gR t.2 c k = gR N c k) ∧ ∀ c k, ¬ ((c = 129 ∨ c = 130) ∧ k = s) → gI t.2 c k = gI N c k) ∧ f_Mo_layGame_l38 (nI F) (nI s) (z + 1) (nI j) K = f_Mo_layGame_l38 (nI F) (nI s) z t.1 t.2 := fun o e1 e2 e3 => by
            refine ⟨(nI (j + 1), sI (sI K 129 s (-x)) 130 s (nI j)), ⟨rfl, ?_, ?_, i3, fun c k e => ?_⟩, e3⟩
            · rw [e1, e2, gI_sI, if_neg (by omega), gI_sI, if_pos ⟨rfl, rfl⟩]; rfl
            · rw [e1, e2, gI_sI, if_pos ⟨rfl, rfl⟩]; rfl
            · show gI (sI _ _ _ _) c k = _
              rw [gI_sI, if_neg (fun z => e ⟨Or.inr z.1, z.2⟩), gI_sI, if_neg (fun z => e ⟨Or.inl z.1, z.2⟩)]
              exact i4 c k e
          cases hsc : scn G j with
          | none =>
            refine wr _ (scn_0 hc hsc) rfl ?_
            rw [hb]
            unfold f_Mo_layGame_j99
            rw [ald_nI (by omega) (by decide), i2, hsc, if_pos (show bp none < 0 by decide), hup2]
          | some q =>
            obtain ⟨x0, p0⟩ := q
            have hp0 := scn_in hsc
            have hx0 := hGt p0 x0 hp0.2
            have hbr : f_Mo_layGame_l38 (nI F) (nI s) (z + 1) (nI j) K = if x < x0 then f_Mo_layGame_l38 (nI F) (nI s) z (nI (j + 1)) (sI (sI K 129 s (-x)) 130 s (nI j)) else f_Mo_layGame_l38 (nI F) (nI s) z (nI (j + 1)) K := by
              rw [hb]
              unfold f_Mo_layGame_j99
              rw [ald_nI (by omega) (by decide), ald_nI (by omega) (by decide), i1, i2, hsc]
              show (if nI p0 < 0 then _ else (if -x0 < -x then _ else _)) = _
              rw [if_neg (nI_pos (by omega)), hup2, nI_1]
              by_cases e : x < x0
              · rw [if_pos ((tri_lt hx0 hxt).mpr e), if_pos e]
              · rw [if_neg (fun y => e ((tri_lt hx0 hxt).mp y)), if_neg e]
            by_cases e : x < x0
            · refine wr (x, j) (by rw [scn_1 hc hsc, if_pos e]) rfl ?_
              rw [hbr, if_pos e]
            · refine ⟨(nI (j + 1), K), ⟨rfl, ?_, ?_, i3, i4⟩, ?_⟩
              · show gI K 129 s = _
                rw [scn_1 hc hsc, if_neg e, i1, hsc]
              · show gI K 130 s = _
                rw [scn_1 hc hsc, if_neg e, i2, hsc]
              · show f_Mo_layGame_l38 (nI F) (nI s) (z + 1) (nI j) K = _
                rw [hbr, if_neg e]
        · have hc : G j = none := by
            cases hc : G j with
            | none => rfl
            | some x => exact absurd (hGs j x hc).1.1 y1
          have hnw : ¬ (s ^^^ 2 ^ j) &&& F = s ^^^ 2 ^ j := fun e => y1 ((and_sub _ _).mp e j (by rw [Nat.testBit_xor, y2', Nat.testBit_two_pow]; simp))
          refine ⟨(nI (j + 1), K), ⟨rfl, by rw [scn_n hc]; exact i1, by rw [scn_n hc]; exact i2, i3, i4⟩, ?_⟩
          show f_Mo_layGame_b38 (f_Mo_layGame_l38 (nI F) (nI s) z) (nI F) (nI s) (nI j) K = _
          unfold f_Mo_layGame_b38
          rw [hm5, if_neg (nI_ge hj (by omega)), lo_I j (by omega) s (by omega) y2', if_neg hne, isWithin_ok (by omega) hfr, bnd_s, if_neg hnw, if_pos rfl, nI_1]
    · obtain ⟨v, K⟩ := t
      obtain ⟨rfl, i1, i2, i3, i4⟩ := hI
      simp only at i1 i2 i3 i4
      refine ⟨((), K), ?_, i1, i2, i3, i4⟩
      show f_Mo_layGame_b38 (f_Mo_layGame_l38 (nI F) (nI s) z) (nI F) (nI s) (nI (D 0 1)) K = _
      unfold f_Mo_layGame_b38
      rw [i4 105 42 (by omega), hRN.2.2.2.2.2.1.1.2.2.1, if_pos (nI_le (Nat.le_refl _) (by omega))]
  obtain ⟨⟨u, N1⟩, k1, k2, k3, k4, k5⟩ := key
  refine ⟨N1, k1, ?_, ?_, k4, k5⟩
  · show _ = vlo _
    rw [hG]; exact k2
  · show _ = bp _
    rw [hG]; exact k3
theorem layGame_ok {D : DT} {M : AM} (h : Rel D M) : ∃ M1, f_Mo_layGame M = some ((), M1) ∧ gI M1 129 0 = (grw D (frN (D 0 1) (D (10 + D 7 0) 1) + 1) 0).1 ∧ gI M1 130 0 = (grw D (frN (D 0 1) (D (10 + D 7 0) 1) + 1) 0).2 ∧ Sm M M1 := by
  have hnc := h.1.2.1
  have hfr := h.fr'
  have hlay := fun (N : AM) (hN : Sm M N) (r s : Nat) => layGameL h hN (r := r) (s := s)
  have s129 : ∀ j, scr 129 j ∧ scr 130 j := fun j => by unfold scr; omega
  have hfree := Mo_free_ok h
  generalize hF : frN (D 0 1) (D (10 + D 7 0) 1) = F at *
  have key : ∃ o, f_Mo_layGame_l7 (nI F) fu (nI F) M = some o ∧ (Sm M o.2 ∧ GM D (F + 1) o.2) := by
    refine for_inv (fun z (s : Int32 × AM) => f_Mo_layGame_l7 (nI F) z s.1 s.2) (fun r s => s.1 = dwn F r ∧ Sm M s.2 ∧ GM D r s.2) (F + 1) _ (fun r s z hr hI => ?_) (fun s z hI => ?_) (F + 1) 0 (nI F, M) fu (by omega) (by rw [fu_eq]; omega) ⟨by unfold dwn; rw [if_pos (Nat.zero_le _), Nat.sub_zero], Sm.rfl', fun s _ q => by omega⟩
    · obtain ⟨v, N⟩ := s
      obtain ⟨i0, i1, i2⟩ := hI
      simp only at i0 i1 i2
      subst i0
      left
      have hd : dwn F r = nI (F - r) := if_pos (by omega)
      by_cases hs : (F - r) &&& F = F - r
      · have hN2 : Sm M (sI (sI N 129 (F - r) 0) 130 (F - r) (-1)) := (i1.sI (s129 _).1).sI (s129 _).2
        have hG2 : GM D r (sI (sI N 129 (F - r) 0) 130 (F - r) (-1)) := fun s hs1 hs2 => by
          rw [hF] at hs2
          have : s ≠ F - r := fun e => by omega
          rw [gI_sI, if_neg (by omega), gI_sI, if_neg (by omega), gI_sI, if_neg (by omega), gI_sI, if_neg (by omega)]
          exact i2 s hs1 (by rw [hF]; exact hs2)
        obtain ⟨N1, w1, w2, w3, w4, w5⟩ := hlay _ hN2 r (F - r) hs (by omega) hG2 (by rw [gI_sI, if_neg (by omega), gI_sI, if_pos ⟨rfl, rfl⟩]) (by rw [gI_sI, if_pos ⟨rfl, rfl⟩])
        have hgs : grw D (r + 1) (F - r) = gnw D (grw D r) (F - r) := by rw [grw_s, hF, if_pos ⟨rfl, hs⟩]
        refine ⟨(dwn F (r + 1), N1), ⟨rfl, ⟨fun c k => (w4 c k).trans (hN2.1 c k), fun c k e => ?_⟩, fun s hs1 hs2 => ?_⟩, ?_⟩
        · show gI N1 c k = _
          rw [w5 c k (fun z => e (by rcases z with ⟨z | z, -⟩ <;> rw [z]; exact (s129 k).1; exact (s129 k).2)), hN2.2 c k e]
        · rw [hF] at hs1 hs2
          have hle := sub_le hs1
          show gI N1 129 s = _ ∧ gI N1 130 s = _
          by_cases e : s = F - r
          · rw [e, hgs]; exact ⟨w2, w3⟩
          · rw [w5 129 s (by omega), w5 130 s (by omega), grw_s, hF, if_neg (fun z => e z.1)]
            exact hG2 s (by rw [hF]; exact hs1) (by rw [hF]; omega)
        · show f_Mo_layGame_l7 (nI F) (z + 1) (dwn F r) N = _
          rw [hd]
          show f_Mo_layGame_b7 (f_Mo_layGame_l7 (nI F) z) (nI F) (nI (F - r)) N = _
          unfold f_Mo_layGame_b7
          rw [if_neg (nI_pos (by omega)), isWithin_ok (by omega) hfr, bnd_s, if_pos hs, if_neg (by decide), ast_nI (by omega) (by decide), ast_nI (by omega) (by decide), w1, bnd_s, dwn_s (by omega)]
      · refine ⟨(dwn F (r + 1), N), ⟨rfl, i1, fun s hs1 hs2 => ?_⟩, ?_⟩
        · rw [hF] at hs1 hs2
          have hle := sub_le hs1
          have e : ¬ s = F - r := fun e => hs (by rw [← e]; exact hs1)
          show gI N 129 s = _ ∧ gI N 130 s = _
          rw [grw_s, hF, if_neg (fun z => e z.1)]
          exact i2 s (by rw [hF]; exact hs1) (by rw [hF]; omega)
        · show f_Mo_layGame_l7 (nI F) (z + 1) (dwn F r) N = _
          rw [hd]
          show f_Mo_layGame_b7 (f_Mo_layGame_l7 (nI F) z) (nI F) (nI (F - r)) N = _
          unfold f_Mo_layGame_b7
          rw [if_neg (nI_pos (by omega)), isWithin_ok (by omega) hfr, bnd_s, if_neg hs, if_pos rfl, dwn_s (by omega)]
    · obtain ⟨v, N⟩ := s
      obtain ⟨i0, i1, i2⟩ := hI
      simp only at i0 i1 i2
      subst i0
      refine ⟨((), N), ?_, i1, i2⟩
      show f_Mo_layGame_b7 (f_Mo_layGame_l7 (nI F) z) (nI F) (dwn F (F + 1)) N = _
      have hd : dwn F (F + 1) = -1 := if_neg (by omega)
      unfold f_Mo_layGame_b7
      rw [hd, if_pos (by decide)]
  obtain ⟨⟨u, M1⟩, k1, k2, k3⟩ := key
  have h00 := k3 0 (by rw [Nat.zero_and]) (by rw [hF]; omega)
  refine ⟨M1, ?_, h00.1, h00.2, k2⟩
  unfold f_Mo_layGame
  rw [hfree, bnd_s, k1, bnd_s]
theorem B_game (a : Int32) : Both (f_C_game a) (f_Mo_game a) := by
  refine Both.of (fun D => if a = 0 then (grw D (frN (D 0 1) (D (10 + D 7 0) 1) + 1) 0).1 else if a = 1 then (grw D (frN (D 0 1) (D (10 + D 7 0) 1) + 1) 0).2 else -1) (fun D M h => ?_) (fun D M h => ?_)
  · unfold f_C_game
    rcases in_cases a 2 (by decide) with ⟨j, hj, rfl⟩ | ho
    · obtain ⟨M1, k1, k2, k3⟩ := play_ok h
      refine ⟨M1, ?_, k3⟩
      rw [if_neg (nI_pos (by omega)), if_pos (show nI j ≤ 1 from nI_le (b := 1) (by omega) (by decide)), ckK_eq (pl_kd h), cur_ok h, bnd_s, k1, bnd_s, k2]
      rcases (show j = 0 ∨ j = 1 by omega) with rfl | rfl
      · rw [if_pos nI_0, if_pos nI_0]
      · rw [if_neg (show ¬ nI 1 = 0 by decide), if_neg (show ¬ nI 1 = 0 by decide), if_pos (show nI 1 = 1 from rfl)]
    · refine ⟨M, ?_, Sm.rfl'⟩
      have n0 : ¬ a = 0 := fun e => by rw [e] at ho; revert ho; decide
      have n1 : ¬ a = 1 := fun e => by rw [e] at ho; revert ho; decide
      rw [if_neg n0, if_neg n1]
      by_cases hneg : a < 0
      · rw [if_pos hneg]
      · rw [if_neg hneg, if_neg]
        have h2 := ho.resolve_left hneg
        rw [Int32.le_iff_toInt_le] at h2 ⊢
        have e1 : (nI 2).toInt = 2 := by decide
        have e2 : (1 : Int32).toInt = 1 := by decide
        omega
  · obtain ⟨M1, k1, k2, k3, k4⟩ := layGame_ok h
    refine ⟨M1, ?_, k4⟩
    unfold f_Mo_game
    rw [k1, bnd_s, show ∀ κ : Int32 → Option (Int32 × AM), ald 256 M1 129 0 κ = κ (gI M1 129 0) from fun κ => ald_nI (j := 0) (by decide) (by decide), show ∀ κ : Int32 → Option (Int32 × AM), ald 256 M1 130 0 κ = κ (gI M1 130 0) from fun κ => ald_nI (j := 0) (by decide) (by decide), k2, k3]
    by_cases a0 : a = 0
    · rw [if_pos a0, if_pos a0]
    · rw [if_neg a0, if_neg a0]
      by_cases a1 : a = 1
      · rw [if_pos a1, if_pos a1]
      · rw [if_neg a1, if_neg a1]
