/-! the basis, and how far it reaches -/
theorem xr3 (a b c : Nat) : (a ^^^ b) ^^^ (b ^^^ c) = a ^^^ c := by
  refine Nat.eq_of_testBit_eq fun j => ?_
  simp only [Nat.testBit_xor]
  cases a.testBit j <;> cases b.testBit j <;> cases c.testBit j <;> rfl
def rs (b : Nat → Nat) (v : Nat) : Nat → Nat
  | 0 => v
  | k + 1 => if (rs b v k).testBit k then rs b v k ^^^ b k else rs b v k
theorem rs_s (b : Nat → Nat) (v k : Nat) : rs b v (k + 1) = if (rs b v k).testBit k then rs b v k ^^^ b k else rs b v k := rfl
theorem rs_lt {b : Nat → Nat} {v : Nat} (hb : ∀ l, l < 8 → b l < 256) (hv : v < 256) : ∀ k, k ≤ 8 → rs b v k < 256 := by
  intro k
  induction k with
  | zero => intro _; exact hv
  | succ k ih =>
    intro hk
    rw [rs_s]
    split
    · exact Nat.xor_lt_two_pow (n := 8) (ih (by omega)) (hb k (by omega))
    · exact ih (by omega)
/-- the basis of a span -/
def BI (b : Nat → Nat) (S : Nat → Bool) : Prop := (∀ l, l < 8 → b l < 256 ∧ S (b l) = true ∧ (b l ≠ 0 → (b l).testBit l = true ∧ ∀ j, j < l → (b l).testBit j = false)) ∧ ∀ v, S v = true → v ≠ 0 → ∃ l, l < 8 ∧ b l ≠ 0 ∧ v.testBit l = true ∧ ∀ j, j < l → v.testBit j = false
theorem BI.red {b : Nat → Nat} {S : Nat → Bool} (h : BI b S) (v : Nat) : ∀ k, k ≤ 8 → ∀ l, l < k → b l ≠ 0 → (rs b v k).testBit l = false := by
  intro k
  induction k with
  | zero => intro _ l hl; omega
  | succ k ih =>
    intro hk l hl hb
    rw [rs_s]
    by_cases hbit : (rs b v k).testBit k = true
    · rw [if_pos hbit, Nat.testBit_xor]
      by_cases e : l = k
      · subst e
        rw [hbit, ((h.1 l (by omega)).2.2 hb).1]; rfl
      · rw [ih (by omega) l (by omega) hb]
        by_cases hk0 : b k = 0
        · rw [hk0, Nat.zero_testBit]; rfl
        · rw [((h.1 k (by omega)).2.2 hk0).2 l (by omega)]; rfl
    · rw [if_neg hbit]
      by_cases e : l = k
      · subst e; simpa using hbit
      · exact ih (by omega) l (by omega) hb
theorem BI.dif {tn : Nat → Nat} {F n : Nat} {b : Nat → Nat} (h : BI b (spb tn F n)) (v : Nat) : ∀ k, k ≤ 8 → spb tn F n (v ^^^ rs b v k) = true := by
  intro k
  induction k with
  | zero => intro _; show spb tn F n (v ^^^ v) = true; rw [Nat.xor_self]; exact spb_0 _ _ _
  | succ k ih =>
    intro hk
    rw [rs_s]
    split
    · rw [← Nat.xor_assoc]
      exact spb_x (ih (by omega)) (h.1 k (by omega)).2.1
    · exact ih (by omega)
theorem BI.iff {tn : Nat → Nat} {F n : Nat} {b : Nat → Nat} (h : BI b (spb tn F n)) (v : Nat) : rs b v 8 = 0 ↔ spb tn F n v = true := by
  have hd := h.dif v 8 (Nat.le_refl _)
  constructor
  · intro e
    rw [e, Nat.xor_zero] at hd
    exact hd
  · intro hv
    have hr := spb_x hv hd
    rw [xrt] at hr
    by_cases e : rs b v 8 = 0
    · exact e
    · obtain ⟨l, l1, l2, l3, -⟩ := h.2 _ hr e
      rw [h.red v 8 (Nat.le_refl _) l l1 l2] at l3
      cases l3
/-- the lowest bit -/
def lowb (r : Nat) : Nat := if r % 2 = 1 then 0 else if r / 2 % 2 = 1 then 1 else if r / 4 % 2 = 1 then 2 else if r / 8 % 2 = 1 then 3 else if r / 16 % 2 = 1 then 4 else if r / 32 % 2 = 1 then 5 else if r / 64 % 2 = 1 then 6 else 7
theorem lowb_ok : ∀ r, r < 256 → r ≠ 0 → lowb r < 8 ∧ r.testBit (lowb r) = true ∧ ∀ j, j < 8 → j < lowb r → r.testBit j = false := by decide +kernel
theorem BI.more {tn : Nat → Nat} {F n : Nat} {b : Nat → Nat} (h : BI b (spb tn F n)) (hF : F.testBit n = true) (ht : tn n < 256) (hr : rs b (tn n) 8 ≠ 0) : BI (fun l => if l = lowb (rs b (tn n) 8) then rs b (tn n) 8 else b l) (spb tn F (n + 1)) := by
  have hlt := rs_lt (fun l hl => (h.1 l hl).1) ht 8 (Nat.le_refl _)
  have hd := h.dif (tn n) 8 (Nat.le_refl _)
  have hred := h.red (tn n) 8 (Nat.le_refl _)
  generalize hrr : rs b (tn n) 8 = r at *
  obtain ⟨w1, w2, w3⟩ := lowb_ok r hlt hr
  generalize lowb r = l at *
  have hbl : b l = 0 := by
    by_cases e : b l = 0
    · exact e
    · rw [hred l w1 e] at w2; cases w2
  have sup : ∀ v, spb tn F n v = true → spb tn F (n + 1) v = true := fun v hv => by rw [spb_s, hv]; rfl
  refine ⟨fun j hj => ?_, fun v hv hv0 => ?_⟩
  · by_cases e : j = l
    · simp only [e, if_true]
      refine ⟨hlt, ?_, fun _ => ⟨w2, fun i hi => w3 i (by omega) hi⟩⟩
      rw [spb_s, hF, Bool.true_and, Nat.xor_comm r, hd, Bool.or_true]
    · simp only [if_neg e]
      exact ⟨(h.1 j hj).1, sup _ (h.1 j hj).2.1, (h.1 j hj).2.2⟩
  · have old : ∀ w, spb tn F n w = true → w ≠ 0 → ∃ m, m < 8 ∧ m ≠ l ∧ b m ≠ 0 ∧ w.testBit m = true ∧ ∀ j, j < m → w.testBit j = false := fun w hw hw0 => by
      obtain ⟨m, m1, m2, m3, m4⟩ := h.2 w hw hw0
      exact ⟨m, m1, fun e => by rw [e] at m2; exact m2 hbl, m2, m3, m4⟩
    rw [spb_s, hF, Bool.true_and, Bool.or_eq_true] at hv
    rcases hv with hv | hv
    · obtain ⟨m, m1, m2, m3, m4, m5⟩ := old v hv hv0
      exact ⟨m, m1, by simp only [if_neg m2]; exact m3, m4, m5⟩
    · have hw : spb tn F n (v ^^^ r) = true := by
        have := spb_x hv hd
        rw [xr3] at this
        exact this
      by_cases e0 : v ^^^ r = 0
      · have hvr : v = r := by
          have := congrArg (fun x => x ^^^ r) e0
          simpa [xrs] using this
        refine ⟨l, w1, by simp only [if_true]; exact hr, by rw [hvr]; exact w2, fun j hj => by rw [hvr]; exact w3 j (by omega) hj⟩
      · obtain ⟨m, m1, m2, m3, m4, m5⟩ := old _ hw e0
        have hvb : ∀ j, v.testBit j = ((v ^^^ r).testBit j ^^ r.testBit j) := fun j => by rw [← Nat.testBit_xor, xrs]
        rcases Nat.lt_or_ge m l with hml | hml
        · refine ⟨m, m1, by simp only [if_neg m2]; exact m3, by rw [hvb, m4, hred m m1 m3]; rfl, fun j hj => by rw [hvb, m5 j hj, w3 j (by omega) (by omega)]; rfl⟩
        · refine ⟨l, w1, by simp only [if_true]; exact hr, by rw [hvb, w2, m5 l (by omega)]; rfl, fun j hj => by rw [hvb, m5 j (by omega), w3 j (by omega) hj]; rfl⟩
theorem BI.same {tn : Nat → Nat} {F n : Nat} {b : Nat → Nat} (h : BI b (spb tn F n)) (hs : ∀ v, spb tn F (n + 1) v = spb tn F n v) : BI b (spb tn F (n + 1)) := by
  have : spb tn F (n + 1) = spb tn F n := funext hs
  rw [this]; exact h
theorem BI.nil (tn : Nat → Nat) (F : Nat) : BI (fun _ => 0) (spb tn F 0) := by
  refine ⟨fun l hl => ⟨show 0 < 256 by decide, rfl, fun q => absurd rfl q⟩, fun v hv hv0 => ?_⟩
  have : v = 0 := by simpa [spb] using hv
  exact absurd this hv0
/-! the machine's part -/
theorem ntz62 (x y : Int32) (M M0 : AM) : f_Int_numberOfTrailingZeros_j62 x y M = (f_Int_numberOfTrailingZeros_j62 x y M0).map (fun q => (q.1, M)) := by
  unfold f_Int_numberOfTrailingZeros_j62
  by_cases h : x ≤ 4
  · rw [if_pos h, if_pos h]; rfl
  · rw [if_neg h, if_neg h]; rfl
theorem ntz49 (x y : Int32) (M M0 : AM) : f_Int_numberOfTrailingZeros_j49 x y M = (f_Int_numberOfTrailingZeros_j49 x y M0).map (fun q => (q.1, M)) := by
  unfold f_Int_numberOfTrailingZeros_j49
  by_cases h : x ≤ 16
  · rw [if_pos h, if_pos h]; exact ntz62 _ _ _ _
  · rw [if_neg h, if_neg h]; exact ntz62 _ _ _ _
theorem ntz34 (x y : Int32) (M M0 : AM) : f_Int_numberOfTrailingZeros_j34 x y M = (f_Int_numberOfTrailingZeros_j34 x y M0).map (fun q => (q.1, M)) := by
  unfold f_Int_numberOfTrailingZeros_j34
  by_cases h : x ≤ 256
  · rw [if_pos h, if_pos h]; exact ntz49 _ _ _ _
  · rw [if_neg h, if_neg h]; exact ntz49 _ _ _ _
theorem ntzM (x : Int32) (M M0 : AM) : f_Int_numberOfTrailingZeros x M = (f_Int_numberOfTrailingZeros x M0).map (fun q => (q.1, M)) := by
  unfold f_Int_numberOfTrailingZeros
  by_cases h : 0 < ((x ^^^ (-1)) &&& (x - 1))
  · rw [if_pos h, if_pos h]
    by_cases h2 : ((x ^^^ (-1)) &&& (x - 1)) ≤ 65536
    · rw [if_pos h2, if_pos h2]; exact ntz34 _ _ _ _
    · rw [if_neg h2, if_neg h2]; exact ntz34 _ _ _ _
  · rw [if_neg h, if_neg h]; rfl
theorem ntz_all : ∀ r, r < 256 → r ≠ 0 → (f_Int_numberOfTrailingZeros (nI r) (fun _ _ => 0, fun _ _ => 0, fun _ _ => 0, 0)).map (fun q => q.1 % 8) = some (nI (lowb r)) := by decide +kernel
theorem ntz_ok {r : Nat} (h : r < 256) (h0 : r ≠ 0) (M : AM) : ∃ x, f_Int_numberOfTrailingZeros (nI r) M = some (x, M) ∧ x % 8 = nI (lowb r) := by
  rw [ntzM _ M (fun _ _ => 0, fun _ _ => 0, fun _ _ => 0, 0)]
  have := ntz_all r h h0
  cases hz : f_Int_numberOfTrailingZeros (nI r) (fun _ _ => 0, fun _ _ => 0, fun _ _ => 0, 0) with
  | none => rw [hz] at this; cases this
  | some q =>
    rw [hz] at this
    exact ⟨q.1, rfl, Option.some.inj this⟩
/-- the class's basis row -/
def BR (b : Nat → Nat) (N : AM) : Prop := ∀ l, l < 8 → gI N 91 l = nI (b l)
theorem restOf_ok {b : Nat → Nat} {N : AM} {v : Nat} (hb : BR b N) (h8 : ∀ l, l < 8 → b l < 256) (hv : v < 256) : f_Sets_restOf (nI v) N = some (nI (rs b v 8), N) := by
  unfold f_Sets_restOf
  have key : f_Sets_restOf_l4 fu (nI v) 0 N = some (nI (rs b v 8), N) := for_up (fun z (s : Int32 × Int32 × AM) => f_Sets_restOf_l4 z s.1 s.2.1 s.2.2) (fun k => (nI (rs b v k), nI k, N)) 8 _
    (fun k z hk => by
      show f_Sets_restOf_b4 (f_Sets_restOf_l4 z) (nI (rs b v k)) (nI k) N = f_Sets_restOf_l4 z (nI (rs b v (k + 1))) (nI (k + 1)) N
      have hlt := rs_lt h8 hv k (by omega)
      have hbk := h8 k hk
      unfold f_Sets_restOf_b4
      rw [nI_lit 8, if_neg (nI_ge hk (by decide)), nx_bit (by omega) (by omega), tb_mod, ald_nI hk (by decide), ald_nI hk (by decide), hb k hk, nx_xor, nI_1, rs_s]
      by_cases hbit : (rs b v k).testBit k = true
      · rw [if_pos hbit, if_neg (by decide), if_pos hbit]
        by_cases e : b k = 0
        · rw [e, nI_0, if_pos rfl, Nat.xor_zero]
        · rw [if_neg (nI_ne0 (by omega) (by omega))]
      · rw [if_neg hbit, if_pos nI_0, if_neg hbit])
    (fun z => by
      show f_Sets_restOf_b4 (f_Sets_restOf_l4 z) (nI (rs b v 8)) (nI 8) N = _
      unfold f_Sets_restOf_b4
      rw [nI_lit 8, if_pos (nI_le (Nat.le_refl _) (by decide))]) 8 0 fu rfl (by rw [fu_eq]; decide)
  rw [bnd_eq key]
theorem reachL2 (p : Nat) (a : Int32) (M : AM) : f_Sets_reach_l2 p a fu 0 M = some ((), fil M 91 0 8) :=
  for_up (fun z (s : Int32 × AM) => f_Sets_reach_l2 p a z s.1 s.2) (fun k => (nI k, fil M 91 0 k)) 8 _
    (fun k z hk => by
      show f_Sets_reach_b2 (f_Sets_reach_l2 p a z) p a (nI k) (fil M 91 0 k) = _
      unfold f_Sets_reach_b2
      rw [nI_lit 8, if_neg (nI_ge hk (by decide)), ast_nI hk (by decide), nI_1]
      rfl)
    (fun z => by
      show f_Sets_reach_b2 (f_Sets_reach_l2 p a z) p a (nI 8) (fil M 91 0 8) = _
      unfold f_Sets_reach_b2
      rw [nI_lit 8, if_pos (nI_le (Nat.le_refl _) (by decide))]) 8 0 fu rfl (by rw [fu_eq]; decide)
theorem scr91 (j : Nat) : scr 91 j := by unfold scr; omega
theorem reach_ok {D : DT} {M : AM} (h : Rel D M) {F : Nat} (hF : F < 256) : ∃ b M', f_Sets_reach (gR M 0 3) (nI F) M = some (nI (nSp (D 3) F (D 0 1)), M') ∧ Sm M M' ∧ (∀ j, gI M' 87 j = gI M 87 j) ∧ BR b M' ∧ BI b (spb (D 3) F (D 0 1)) := by
  have hnc := h.1.2.1
  have h256 := p2_le h.1.1
  have hview : ∀ N, Sm M N → VW D N (gR M 0 3) (gR M 39 (D 7 0)) ∧ Rel D N := fun N hN => h.view hN
  generalize gR M 0 3 = p at *
  generalize gR M 39 (D 7 0) = r0 at *
  have key : ∃ o, f_Sets_reach_l26 p (nI F) fu 1 0 (fil M 91 0 8) = some o ∧ (o.1 = nI (nSp (D 3) F (D 0 1)) ∧ Sm M o.2 ∧ (∀ j, gI o.2 87 j = gI M 87 j) ∧ ∃ b, BR b o.2 ∧ BI b (spb (D 3) F (D 0 1))) := by
    refine for_inv (fun z (s : Int32 × Int32 × AM) => f_Sets_reach_l26 p (nI F) z s.1 s.2.1 s.2.2) (fun k s => s.1 = nI (nSp (D 3) F k) ∧ s.2.1 = nI k ∧ Sm M s.2.2 ∧ (∀ j, gI s.2.2 87 j = gI M 87 j) ∧ ∃ b, BR b s.2.2 ∧ BI b (spb (D 3) F k)) (D 0 1) _ (fun k s z hk hI => ?_) (fun s z hI => ?_) (D 0 1) 0 (1, 0, fil M 91 0 8) fu (by omega) (by rw [fu_eq]; omega) ⟨by rw [nSp_0]; rfl, rfl, fil_sm _ _ _ _ scr91, fun j => by show gI (fil M 91 0 8) 87 j = _; rw [fil_I, if_neg (by omega)], fun _ => 0, fun l hl => by show gI (fil M 91 0 8) 91 l = _; rw [fil_I, if_pos ⟨rfl, hl⟩]; rfl, BI.nil _ _⟩
    · obtain ⟨v1, v2, N⟩ := s
      obtain ⟨rfl, rfl, i1, i2, b, i3, i4⟩ := hI
      simp only at i1 i2 i3
      left
      obtain ⟨⟨w1, w2, w3, w4, w5, w6, w7⟩, hR⟩ := hview N i1
      have ht := (h.1.2.2.2.2.2.2.2.1 k hk).1
      have htk : D 3 k < 256 := by omega
      have hl8 := fun l hl => (i4.1 l hl).1
      have hrl := rs_lt hl8 htk 8 (Nat.le_refl _)
      have hle := nSp_le (D 3) F k
      by_cases hFk : F.testBit k = true
      · by_cases hr : rs b (D 3 k) 8 = 0
        · have hsp := (i4.iff (D 3 k)).mp hr
          refine ⟨(nI (nSp (D 3) F (k + 1)), nI (k + 1), N), ⟨rfl, rfl, i1, i2, b, i3, i4.same (fun v => ?_)⟩, ?_⟩
          · rw [spb_s, hFk, Bool.true_and]
            cases h1 : spb (D 3) F k v with
            | true => rfl
            | false =>
              cases h2 : spb (D 3) F k (v ^^^ D 3 k) with
              | false => rfl
              | true =>
                have := spb_x h2 hsp
                rw [xrs, h1] at this
                cases this
          · show f_Sets_reach_b26 (f_Sets_reach_l26 p (nI F) z) p (nI F) (nI (nSp (D 3) F k)) (nI k) N = f_Sets_reach_l26 p (nI F) z (nI (nSp (D 3) F (k + 1))) (nI (k + 1)) N
            unfold f_Sets_reach_b26 f_Sets_reach_j59
            rw [w5, if_neg (nI_ge hk (by omega)), nx_bit (by omega) (by omega), tb_mod, if_pos hFk, if_neg (by decide), ald_nI (by omega) (by decide), (w6 k hk).1, restOf_ok i3 hl8 htk, bnd_s, hr, nI_0, if_pos rfl, nI_1, nSp_s htk, if_neg (fun q => by rw [hsp] at q; cases q.2)]
        · have hsp : spb (D 3) F k (D 3 k) = false := by
            cases hq : spb (D 3) F k (D 3 k) with
            | false => rfl
            | true => exact absurd ((i4.iff (D 3 k)).mpr hq) hr
          obtain ⟨x, x1, x2⟩ := ntz_ok hrl hr N
          have hlb := (lowb_ok _ hrl hr).1
          refine ⟨(nI (nSp (D 3) F (k + 1)), nI (k + 1), sI N 91 (lowb (rs b (D 3 k) 8)) (nI (rs b (D 3 k) 8))), ⟨rfl, rfl, i1.sI (scr91 _), fun j => ?_, _, fun l hl => ?_, i4.more hFk htk hr⟩, ?_⟩
          · show gI (sI _ _ _ _) 87 j = _
            rw [gI_sI, if_neg (by omega)]; exact i2 j
          · show gI (sI _ _ _ _) 91 l = _
            rw [gI_sI]
            by_cases e : l = lowb (rs b (D 3 k) 8)
            · rw [if_pos ⟨rfl, e⟩, if_pos e]
            · rw [if_neg (fun q => e q.2), if_neg e]; exact i3 l hl
          · show f_Sets_reach_b26 (f_Sets_reach_l26 p (nI F) z) p (nI F) (nI (nSp (D 3) F k)) (nI k) N = f_Sets_reach_l26 p (nI F) z (nI (nSp (D 3) F (k + 1))) (nI (k + 1)) _
            unfold f_Sets_reach_b26 f_Sets_reach_j59
            rw [w5, if_neg (nI_ge hk (by omega)), nx_bit (by omega) (by omega), tb_mod, if_pos hFk, if_neg (by decide), ald_nI (by omega) (by decide), (w6 k hk).1, restOf_ok i3 hl8 htk, bnd_s, if_neg (nI_ne0 (by omega) (by omega)), x1, bnd_s, x2, ast_nI hlb (by decide), nI_lit 2, pk_mul, nI_1, nSp_s htk, if_pos ⟨hFk, hsp⟩]
      · have hf : F.testBit k = false := by simpa using hFk
        refine ⟨(nI (nSp (D 3) F (k + 1)), nI (k + 1), N), ⟨rfl, rfl, i1, i2, b, i3, i4.same (fun v => by rw [spb_s, hf, Bool.false_and, Bool.or_false])⟩, ?_⟩
        show f_Sets_reach_b26 (f_Sets_reach_l26 p (nI F) z) p (nI F) (nI (nSp (D 3) F k)) (nI k) N = f_Sets_reach_l26 p (nI F) z (nI (nSp (D 3) F (k + 1))) (nI (k + 1)) N
        unfold f_Sets_reach_b26 f_Sets_reach_j59
        rw [w5, if_neg (nI_ge hk (by omega)), nx_bit (by omega) (by omega), tb_mod, if_neg hFk, if_pos nI_0, if_pos rfl, nI_1, nSp_s htk, if_neg (fun q => hFk q.1)]
    · obtain ⟨v1, v2, N⟩ := s
      obtain ⟨rfl, rfl, i1, i2, i3⟩ := hI
      simp only at i1 i2 i3
      obtain ⟨⟨w1, w2, w3, w4, w5, w6, w7⟩, hR⟩ := hview N i1
      refine ⟨(nI (nSp (D 3) F (D 0 1)), N), ?_, rfl, i1, i2, i3⟩
      show f_Sets_reach_b26 (f_Sets_reach_l26 p (nI F) z) p (nI F) (nI (nSp (D 3) F (D 0 1))) (nI (D 0 1)) N = _
      unfold f_Sets_reach_b26
      rw [w5, if_pos (nI_le (Nat.le_refl _) (by omega))]
  obtain ⟨⟨v, M'⟩, k1, k2, k3, k4, b, k5, k6⟩ := key
  simp only at k2
  refine ⟨b, M', ?_, k3, k4, k5, k6⟩
  unfold f_Sets_reach
  rw [reachL2, bnd_s, k1, bnd_s, k2]
/-- the reference's pictures, counted -/
theorem tha_spb {D : DT} (so mo p : Nat) : tha D so mo (so + 1) p = (spb (D 3) so (D 0 1) (p ^^^ D (10 + D 7 0) 0) || spb (D 3) so (D 0 1) ((p ^^^ D (10 + D 7 0) 0) ^^^ mo)) := by
  rw [Bool.eq_iff_iff, tha_iff, Bool.or_eq_true, spb_iff, spb_iff]
  constructor
  · rintro ⟨s, h1, h2, h3 | h3⟩
    · left; exact ⟨s, h2, by rw [h3, Nat.xor_comm (D (10 + D 7 0) 0), xrs]⟩
    · right; exact ⟨s, h2, by rw [h3, Nat.xor_assoc (_ ^^^ _) mo, Nat.xor_comm mo, ← Nat.xor_assoc, xrs, Nat.xor_comm (D (10 + D 7 0) 0), xrs]⟩
  · rintro (⟨s, h1, h2⟩ | ⟨s, h1, h2⟩)
    · exact ⟨s, by have := sub_le h1; omega, h1, Or.inl (by rw [h2, Nat.xor_comm, xrs])⟩
    · exact ⟨s, by have := sub_le h1; omega, h1, Or.inr (by rw [h2, Nat.xor_comm (D (10 + D 7 0) 0), Nat.xor_assoc (_ ^^^ mo), Nat.xor_comm (D (10 + D 7 0) 0) mo, ← Nat.xor_assoc, xrs, xrs])⟩
theorem cnt_tha {D : DT} {M : AM} (h : Rel D M) (so : Nat) {mo : Nat} (hmo : mo < 256) : cnt (tha D so mo (so + 1)) 256 = if spb (D 3) so (D 0 1) mo = true then nSp (D 3) so (D 0 1) else nSp (D 3) so (D 0 1) * 2 := by
  rw [← cnt_two hmo]
  have e : cnt (tha D so mo (so + 1)) 256 = cnt (fun p => (fun v => spb (D 3) so (D 0 1) v || spb (D 3) so (D 0 1) (v ^^^ mo)) (p ^^^ D (10 + D 7 0) 0)) 256 := cnt_ext 256 (fun p _ => tha_spb so mo p)
  rw [e, cnt_xor (fun v => spb (D 3) so (D 0 1) v || spb (D 3) so (D 0 1) (v ^^^ mo)) h.pic']
theorem cnt_tha0 {D : DT} {M : AM} (h : Rel D M) (so : Nat) : cnt (tha D so 0 (so + 1)) 256 = nSp (D 3) so (D 0 1) := by
  rw [cnt_tha h so (by decide), if_pos (spb_0 _ _ _)]
