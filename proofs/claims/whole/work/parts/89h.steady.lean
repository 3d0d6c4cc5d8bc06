/-! rows, steady -/
def fvI : Option Nat → Int32
  | none => 1000000
  | some n => nI n
def MFR (N : AM) (B : Nat → Option Nat) (H : Nat → Int32) : Prop := ∀ v, v < 256 → gI N 127 v = fvI (B v) ∧ gI N 128 v = H v
theorem scrF : (∀ j, scr 127 j) ∧ (∀ j, scr 128 j) := by
  unfold scr
  refine ⟨fun j => ?_, fun j => ?_⟩ <;> omega
/-- what the reference's search looks at -/
def MW (D : DT) (N : AM) : Prop := gI N 105 41 = nI (D 0 0) ∧ gI N 105 42 = nI (D 0 1) ∧ gI N 105 44 = nI (D 0 3) ∧ (∀ c, c < D 0 1 → gI N 121 c = nI (D 3 c)) ∧ ∀ i, i < 5 → gI N 123 i = nI (D (10 + D 7 0) i)
theorem MW.sm {D : DT} {M N : AM} (h : MW D M) (hs : Sm M N) : MW D N := by
  obtain ⟨h1, h2, h3, h4, h5⟩ := h
  refine ⟨?_, ?_, ?_, fun c hc => ?_, fun i hi => ?_⟩ <;> rw [hs.2 _ _ (by unfold scr; omega)]
  · exact h1
  · exact h2
  · exact h3
  · exact h4 c hc
  · exact h5 i hi
theorem Rel.mw {D : DT} {M : AM} (h : Rel D M) : MW D M := ⟨h.2.2.2.2.2.1.1.1, h.2.2.2.2.2.1.1.2.2.1, h.2.2.2.2.2.1.1.2.2.2.1, fun c hc => (h.2.2.2.2.2.1.2.2.1 c hc).1, fun i hi => now_ok h hi⟩
theorem isTied_mw {D : DT} {M0 N : AM} (h : Rel D M0) (hw : MW D N) {k : Nat} (hk : k < 32) : f_Mo_isTied (nI k) N = some (if (D (10 + D 7 0) 1).testBit k then 1 else 0, N) := by
  unfold f_Mo_isTied
  rw [show ∀ κ : Int32 → Option (Int32 × AM), ald 5 N 123 1 κ = κ (gI N 123 1) from fun κ => ald_nI (j := 1) (by decide) (by decide), hw.2.2.2.2 1 (by decide), has_ok (by have := h.tied'; omega) hk]; rfl
theorem farL100 {D : DT} {M0 M N : AM} (h : Rel D M0) (hW : MW D M) (hN : Sm M N) {t n p : Nat} {B : Nat → Option Nat} {H : Nat → Int32} {dn : Nat → Nat → Bool} (hn : n < 256) (hB : BWI (gph D) t (2 ^ D 0 0) n p 0 B H dn) (hM : MFR N B H) (hp : B p = some n) (ho : D 0 3 ≤ pc p) : ∃ N' B' H' dn', f_Mo_layFar_l100 (nI n) (nI p) fu 0 N = some ((), N') ∧ Sm M N' ∧ BWI (gph D) t (2 ^ D 0 0) n p (D 0 1) B' H' dn' ∧ MFR N' B' H' := by
  have hnc := h.1.2.1
  have h256l := p2_le h.1.1
  have hp2 := (hB.2.1 p n hp).1
  have key : ∃ o, f_Mo_layFar_l100 (nI n) (nI p) fu 0 N = some o ∧ (∃ B' H' dn', Sm M o.2 ∧ BWI (gph D) t (2 ^ D 0 0) n p (D 0 1) B' H' dn' ∧ MFR o.2 B' H' ∧ B' p = some n) := by
    refine for_inv (fun z (s : Int32 × AM) => f_Mo_layFar_l100 (nI n) (nI p) z s.1 s.2) (fun c s => s.1 = nI c ∧ ∃ B' H' dn', Sm M s.2 ∧ BWI (gph D) t (2 ^ D 0 0) n p c B' H' dn' ∧ MFR s.2 B' H' ∧ B' p = some n) (D 0 1) _ (fun c s z hc hI => ?_) (fun s z hI => ?_) (D 0 1) 0 (0, N) fu (by omega) (by rw [fu_eq]; omega) ⟨rfl, B, H, dn, hN, hB, hM, hp⟩
    · obtain ⟨v0, K⟩ := s
      obtain ⟨rfl, B', H', dn', i1, i2, i3, i4⟩ := hI
      simp only at i1 i3
      left
      have hR := hW.sm i1
      have htk := (h.1.2.2.2.2.2.2.2.1 c hc).1
      have hx : p ^^^ D 3 c < 2 ^ D 0 0 := Nat.xor_lt_two_pow hp2 htk
      have hb : f_Mo_layFar_l100 (nI n) (nI p) (z + 1) (nI c) K = if (D (10 + D 7 0) 1).testBit c = true then f_Mo_layFar_l100 (nI n) (nI p) z (nI (c + 1)) K else if nI n < fvI (B' (p ^^^ D 3 c)) then f_Mo_layFar_l100 (nI n) (nI p) z (nI (c + 1)) (sI (sI K 127 (p ^^^ D 3 c) (nI (n + 1))) 128 (p ^^^ D 3 c) (H' (p ^^^ D 3 c) + H' p)) else f_Mo_layFar_l100 (nI n) (nI p) z (nI (c + 1)) K := by
        have g1 : ∀ w, w < 256 → gI (sI K 127 (p ^^^ D 3 c) (nI (n + 1))) 128 w = H' w := fun w hw => by rw [gI_sI, if_neg (by omega)]; exact (i3 w hw).2
        show f_Mo_layFar_b100 (f_Mo_layFar_l100 (nI n) (nI p) z) (nI n) (nI p) (nI c) K = _
        unfold f_Mo_layFar_b100
        rw [hR.2.1, if_neg (nI_ge hc (by omega)), ald_nI (by omega) (by decide), hR.2.2.2.1 c hc, isTied_mw h hR (by omega), bnd_s, nx_xor, ald_nI (by omega) (by decide), (i3 _ (by omega)).1, ast_nI (by omega) (by decide), nI_1, nI_1, ald_nI (by omega) (by decide), g1 _ (by omega), ald_nI (by omega) (by decide), g1 _ (by omega), ast_nI (by omega) (by decide)]
        by_cases ht : (D (10 + D 7 0) 1).testBit c = true
        · rw [if_pos ht, if_neg (by decide), if_pos ht]
        · rw [if_neg ht, if_pos rfl, if_neg ht]
      by_cases ht : (D (10 + D 7 0) 1).testBit c = true
      · refine ⟨(nI (c + 1), K), ⟨rfl, B', H', dn', i1, i2.move (Nat.le_refl _) (fun u c' k hu hou hc' hf => ?_), i3, i4⟩, ?_⟩
        · rw [pzd_s]
          constructor
          · rintro (q | ⟨q1, q2, q3⟩)
            · exact q
            · have : (!(D (10 + D 7 0) 1).testBit c') = true := hf
              rw [q3, ht] at this; cases this
          · intro q; exact Or.inl q
        · show f_Mo_layFar_l100 (nI n) (nI p) (z + 1) (nI c) K = _
          rw [hb, if_pos ht]
      · have hf : (gph D).2.2.1 c = true := show (!(D (10 + D 7 0) 1).testBit c) = true by simpa using ht
        have ho' : (gph D).2.2.2 p = true := show decide (D 0 3 ≤ pc p) = true by rw [decide_eq_true_iff]; exact ho
        have far : B' (p ^^^ D 3 c) = none ∨ B' (p ^^^ D 3 c) = some (n + 1) → nI n < fvI (B' (p ^^^ D 3 c)) → ∃ s' : Int32 × AM, (s'.1 = nI (c + 1) ∧ ∃ B2 H2 dn2, Sm M s'.2 ∧ BWI (gph D) t (2 ^ D 0 0) n p (c + 1) B2 H2 dn2 ∧ MFR s'.2 B2 H2 ∧ B2 p = some n) ∧ f_Mo_layFar_l100 (nI n) (nI p) (z + 1) (nI c) K = f_Mo_layFar_l100 (nI n) (nI p) z s'.1 s'.2 := fun hv hlt => by
          have hne : p ≠ p ^^^ D 3 c := fun e => by
            rw [← e, i4] at hv
            rcases hv with hv | hv
            · cases hv
            · cases hv
          refine ⟨(nI (c + 1), sI (sI K 127 (p ^^^ D 3 c) (nI (n + 1))) 128 (p ^^^ D 3 c) (H' (p ^^^ D 3 c) + H' p)), ⟨rfl, _, _, _, (i1.sI (scrF.1 _)).sI (scrF.2 _), i2.far i4 ho' (c0 := c) hc hf hv hx, fun w hw => ⟨?_, ?_⟩, ?_⟩, ?_⟩
          · show gI (sI _ _ _ _) 127 w = fvI (fst B' (p ^^^ D 3 c) (some (n + 1)) w)
            rw [gI_sI, if_neg (by omega), gI_sI]
            by_cases e : w = p ^^^ D 3 c
            · rw [if_pos ⟨rfl, e⟩, e, fst_s]; rfl
            · rw [if_neg (fun y => e y.2), fst_n e]; exact (i3 w hw).1
          · show gI (sI _ _ _ _) 128 w = fst H' (p ^^^ D 3 c) (H' (p ^^^ D 3 c) + H' p) w
            rw [gI_sI]
            by_cases e : w = p ^^^ D 3 c
            · rw [if_pos ⟨rfl, e⟩, e, fst_s]
            · rw [if_neg (fun y => e y.2), fst_n e, gI_sI, if_neg (by omega)]; exact (i3 w hw).2
          · show fst B' (p ^^^ D 3 c) (some (n + 1)) p = some n
            rw [fst_n hne]; exact i4
          · show f_Mo_layFar_l100 (nI n) (nI p) (z + 1) (nI c) K = _
            rw [hb, if_neg ht, if_pos hlt]
        cases hv : B' (p ^^^ D 3 c) with
        | none => exact far (Or.inl hv) (by rw [hv]; exact nI_lt (b := 1000000) (by omega) (by decide))
        | some m =>
          have hm2 := (i2.2.1 _ _ hv).2
          by_cases hmn : m ≤ n
          · refine ⟨(nI (c + 1), K), ⟨rfl, B', H', _, i1, i2.near i4 ho' hf (c0 := c) hv hmn, i3, i4⟩, ?_⟩
            show f_Mo_layFar_l100 (nI n) (nI p) (z + 1) (nI c) K = _
            rw [hb, if_neg ht, hv, if_neg (show ¬ nI n < fvI (some m) from nI_nlt hmn (by omega))]
          · have e : m = n + 1 := by omega
            rw [e] at hv
            exact far (Or.inr hv) (by rw [hv]; exact nI_lt (b := n + 1) (by omega) (by omega))
    · obtain ⟨v0, K⟩ := s
      obtain ⟨rfl, B', H', dn', i1, i2, i3, i4⟩ := hI
      simp only at i1 i3
      refine ⟨((), K), ?_, B', H', dn', i1, i2, i3, i4⟩
      show f_Mo_layFar_b100 (f_Mo_layFar_l100 (nI n) (nI p) z) (nI n) (nI p) (nI (D 0 1)) K = _
      unfold f_Mo_layFar_b100
      rw [(hW.sm i1).2.1, if_pos (nI_le (Nat.le_refl _) (by omega))]
  obtain ⟨⟨u, N'⟩, k1, B', H', dn', k2, k3, k4, -⟩ := key
  exact ⟨N', B', H', dn', k1, k2, k3, k4⟩
theorem farL63 {D : DT} {M0 M N : AM} (h : Rel D M0) (hW : MW D M) (hN : Sm M N) {t n : Nat} {B : Nat → Option Nat} {H : Nat → Int32} {dn : Nat → Nat → Bool} (hn : n < 256) (hB : BWI (gph D) t (2 ^ D 0 0) n 0 0 B H dn) (hM : MFR N B H) : ∃ N' B' H' dn', f_Mo_layFar_l63 (nI n) fu 0 N = some ((), N') ∧ Sm M N' ∧ BWI (gph D) t (2 ^ D 0 0) (n + 1) 0 0 B' H' dn' ∧ MFR N' B' H' := by
  have hnl := h.1.1
  have hle8 := h.1.2.2.2.1
  have h256l := p2_le h.1.1
  have key : ∃ o, f_Mo_layFar_l63 (nI n) fu 0 N = some o ∧ (∃ B' H' dn', Sm M o.2 ∧ BWI (gph D) t (2 ^ D 0 0) n (2 ^ D 0 0) 0 B' H' dn' ∧ MFR o.2 B' H') := by
    refine for_inv (fun z (s : Int32 × AM) => f_Mo_layFar_l63 (nI n) z s.1 s.2) (fun p s => s.1 = nI p ∧ ∃ B' H' dn', Sm M s.2 ∧ BWI (gph D) t (2 ^ D 0 0) n p 0 B' H' dn' ∧ MFR s.2 B' H') (2 ^ D 0 0) _ (fun p s z hp hI => ?_) (fun s z hI => ?_) (2 ^ D 0 0) 0 (0, N) fu (by omega) (by rw [fu_eq]; omega) ⟨rfl, B, H, dn, hN, hB, hM⟩
    · obtain ⟨v0, K⟩ := s
      obtain ⟨rfl, B', H', dn', i1, i2, i3⟩ := hI
      simp only at i1 i3
      left
      have hR := hW.sm i1
      have l8 := pc_le p
      have hb : f_Mo_layFar_l63 (nI n) (z + 1) (nI p) K = if fvI (B' p) = nI n then (if D 0 3 ≤ pc p then bnd (f_Mo_layFar_l100 (nI n) (nI p) fu 0 K) (fun _ K2 => f_Mo_layFar_l63 (nI n) z (nI (p + 1)) K2) else f_Mo_layFar_l63 (nI n) z (nI (p + 1)) K) else f_Mo_layFar_l63 (nI n) z (nI (p + 1)) K := by
        show f_Mo_layFar_b63 (f_Mo_layFar_l63 (nI n) z) (nI n) (nI p) K = _
        unfold f_Mo_layFar_b63
        rw [hR.1, nx_one _ (by omega), if_neg (nI_ge hp (by omega)), ald_nI (by omega) (by decide), (i3 p (by omega)).1, members_ok (by omega), bnd_s, hR.2.2.1, nI_1]
        by_cases e : fvI (B' p) = nI n
        · rw [if_pos e, if_pos e]
          by_cases e2 : D 0 3 ≤ pc p
          · rw [if_pos (nI_le e2 (by omega)), if_pos e2]
          · rw [if_neg (nI_ge (by omega) (by omega)), if_neg e2]
        · rw [if_neg e, if_neg e]
      have skip : (∀ k, B' p = some k → k = n → ¬ D 0 3 ≤ pc p) → f_Mo_layFar_l63 (nI n) (z + 1) (nI p) K = f_Mo_layFar_l63 (nI n) z (nI (p + 1)) K → ∃ s' : Int32 × AM, (s'.1 = nI (p + 1) ∧ ∃ B2 H2 dn2, Sm M s'.2 ∧ BWI (gph D) t (2 ^ D 0 0) n (p + 1) 0 B2 H2 dn2 ∧ MFR s'.2 B2 H2) ∧ f_Mo_layFar_l63 (nI n) (z + 1) (nI p) K = f_Mo_layFar_l63 (nI n) z s'.1 s'.2 := fun hno e => by
        refine ⟨(nI (p + 1), K), ⟨rfl, B', H', dn', i1, i2.move (Nat.le_refl _) (fun u c k hu hou hc hf => ?_), i3⟩, e⟩
        unfold pzd
        constructor
        · rintro (q | ⟨q1, q2⟩)
          · exact Or.inl q
          · by_cases eu : u = p
            · exfalso
              rw [eu] at hu hou
              have q3 : decide (D 0 3 ≤ pc p) = true := hou
              rw [decide_eq_true_iff] at q3
              exact hno k hu q1 q3
            · exact Or.inr ⟨q1, by omega⟩
        · rintro (q | ⟨q1, q2⟩)
          · exact Or.inl q
          · exact Or.inr ⟨q1, by omega⟩
      cases hv : B' p with
      | none =>
        refine skip (fun k hk => by rw [hv] at hk; cases hk) ?_
        rw [hb, hv, if_neg]
        exact fun q => by have := (nI_eq (a := 1000000) (by decide) (by omega)).mp q; omega
      | some k =>
        have hk2 := (i2.2.1 p k hv).2
        by_cases ek : k = n
        · rw [ek] at hv
          by_cases e2 : D 0 3 ≤ pc p
          · obtain ⟨K', B2, H2, dn2, f1, f2, f3, f4⟩ := farL100 h hW i1 hn i2 i3 hv e2
            refine ⟨(nI (p + 1), K'), ⟨rfl, B2, H2, dn2, f2, f3.move (Nat.le_refl _) (fun u c k hu hou hc hf => ?_), f4⟩, ?_⟩
            · have hc' : c < D 0 1 := hc
              unfold pzd
              omega
            · show f_Mo_layFar_l63 (nI n) (z + 1) (nI p) K = _
              rw [hb, hv, if_pos (show fvI (some n) = nI n from rfl), if_pos e2, f1, bnd_s]
          · refine skip (fun k hk _ => e2) ?_
            rw [hb, hv, if_pos (show fvI (some n) = nI n from rfl), if_neg e2]
        · refine skip (fun k' hk' e => by rw [hv] at hk'; cases hk'; exact absurd e ek) ?_
          rw [hb, hv, if_neg]
          exact fun q => ek ((nI_eq (by omega) (by omega)).mp q)
    · obtain ⟨v0, K⟩ := s
      obtain ⟨rfl, B', H', dn', i1, i2, i3⟩ := hI
      simp only at i1 i3
      have hR := hW.sm i1
      refine ⟨((), K), ?_, B', H', dn', i1, i2, i3⟩
      show f_Mo_layFar_b63 (f_Mo_layFar_l63 (nI n) z) (nI n) (nI (2 ^ D 0 0)) K = _
      unfold f_Mo_layFar_b63
      rw [hR.1, nx_one _ (by omega), if_pos (nI_le (Nat.le_refl _) (by omega))]
  obtain ⟨⟨u, N'⟩, k1, B', H', dn', k2, k3, k4⟩ := key
  refine ⟨N', B', H', dn', k1, k2, k3.move (by omega) (fun u c k hu hou hc hf => ?_), k4⟩
  have := (k3.2.1 u k hu).1
  unfold pzd
  omega
theorem farL2 {t : Nat} (ht : t < 256) (M : AM) : ∃ M', f_Mo_layFar_l2 (nI t) fu 0 M = some ((), M') ∧ (∀ c k, gR M' c k = gR M c k) ∧ ∀ c k, gI M' c k = if c = 127 ∧ k < 256 then (if k = t then 0 else 1000000) else if c = 128 ∧ k < 256 then (if k = t then 1 else 0) else gI M c k := by
  have key : ∃ o, f_Mo_layFar_l2 (nI t) fu 0 M = some o ∧ ((∀ c k, gR o.2 c k = gR M c k) ∧ ∀ c k, gI o.2 c k = if c = 127 ∧ k < 256 then (if k = t then 0 else 1000000) else if c = 128 ∧ k < 256 then (if k = t then 1 else 0) else gI M c k) := by
    refine for_inv (fun z (s : Int32 × AM) => f_Mo_layFar_l2 (nI t) z s.1 s.2) (fun j s => s.1 = nI j ∧ (∀ c k, gR s.2 c k = gR M c k) ∧ ∀ c k, gI s.2 c k = if c = 127 ∧ k < j then (if k = t then 0 else 1000000) else if c = 128 ∧ k < j then (if k = t then 1 else 0) else gI M c k) 256 _ (fun j s z hj hI => ?_) (fun s z hI => ?_) 256 0 (0, M) fu (by omega) (by rw [fu_eq]; omega) ⟨rfl, fun _ _ => rfl, fun c k => by rw [if_neg (by omega), if_neg (by omega)]⟩
    · obtain ⟨v, N⟩ := s
      obtain ⟨rfl, i1, i2⟩ := hI
      simp only at i1 i2
      left
      refine ⟨(nI (j + 1), sI (sI N 127 j (if j = t then 0 else 1000000)) 128 j (if j = t then 1 else 0)), ⟨rfl, i1, fun c k => ?_⟩, ?_⟩
      · show gI (sI _ _ _ _) c k = _
        rw [gI_sI, gI_sI, i2]
        by_cases a1 : c = 128 ∧ k = j
        · rw [if_pos a1, if_neg (show ¬ (c = 127 ∧ k < j + 1) by omega), if_pos (show c = 128 ∧ k < j + 1 by omega), a1.2]
        · rw [if_neg a1]
          by_cases a2 : c = 127 ∧ k = j
          · rw [if_pos a2, if_pos (show c = 127 ∧ k < j + 1 by omega), a2.2]
          · rw [if_neg a2]
            by_cases a3 : c = 127 ∧ k < j
            · rw [if_pos a3, if_pos (show c = 127 ∧ k < j + 1 by omega)]
            · rw [if_neg a3, if_neg (show ¬ (c = 127 ∧ k < j + 1) by omega)]
              by_cases a4 : c = 128 ∧ k < j
              · rw [if_pos a4, if_pos (show c = 128 ∧ k < j + 1 by omega)]
              · rw [if_neg a4, if_neg (show ¬ (c = 128 ∧ k < j + 1) by omega)]
      · show f_Mo_layFar_b2 (f_Mo_layFar_l2 (nI t) z) (nI t) (nI j) N = _
        unfold f_Mo_layFar_b2 f_Mo_layFar_j26 f_Mo_layFar_j42
        rw [nI_lit 256, if_neg (nI_ge hj (by decide)), ast_nI hj (by decide), ast_nI hj (by decide), truth_0, truth_1, bnd_s, bnd_s, ast_nI hj (by decide), ast_nI hj (by decide), nI_1]
        by_cases e : j = t
        · rw [if_pos (by rw [e]), if_pos (by rw [e]), if_pos e, if_pos e]
        · rw [if_neg (fun q => e ((nI_eq (by omega) (by omega)).mp q)), if_neg e, if_neg e, truth_0, truth_1, bnd_s, bnd_s, ast_nI hj (by decide), ast_nI hj (by decide), if_neg (fun q => e ((nI_eq (by omega) (by omega)).mp q))]
    · obtain ⟨v, N⟩ := s
      obtain ⟨rfl, i1, i2⟩ := hI
      refine ⟨((), N), ?_, i1, i2⟩
      show f_Mo_layFar_b2 (f_Mo_layFar_l2 (nI t) z) (nI t) (nI 256) N = _
      unfold f_Mo_layFar_b2
      rw [nI_lit 256, if_pos (nI_le (Nat.le_refl _) (by decide))]
  obtain ⟨⟨u, M'⟩, k1, k2, k3⟩ := key
  exact ⟨M', k1, k2, k3⟩
theorem layFar_ok {D : DT} {M0 M : AM} (h : Rel D M0) (hW : MW D M) {t : Nat} (ht : t < 2 ^ D 0 0) : ∃ M' B H, f_Mo_layFar (nI t) M = some ((), M') ∧ Sm M M' ∧ BWD (gph D) t B H ∧ MFR M' B H ∧ (∀ v, B v = none → H v = 0) ∧ ∀ v k, B v = some k → v < 256 ∧ k < 256 := by
  have h256l := p2_le h.1.1
  obtain ⟨M2, a1, a2, a3⟩ := farL2 (show t < 256 by omega) M
  have sm2 : Sm M M2 := ⟨a2, fun c k q => by rw [a3, if_neg (fun z => q (by rw [z.1]; exact scrF.1 k)), if_neg (fun z => q (by rw [z.1]; exact scrF.2 k))]⟩
  have hB0 : BWI (gph D) t (2 ^ D 0 0) 0 0 0 (fst (fun _ => none) t (some 0)) (fst (fun _ => 0) t 1) (fun _ _ => false) := by
    have hn : ∀ k u c, ¬ pzd 0 0 0 k u c := fun k u c q => by unfold pzd at q; omega
    have hsome : ∀ v k, fst (fun _ => (none : Option Nat)) t (some 0) v = some k → v = t ∧ k = 0 := fun v k hv => by
      by_cases e : v = t
      · rw [e, fst_s] at hv; cases hv; exact ⟨e, rfl⟩
      · rw [fst_n e] at hv; cases hv
    refine ⟨⟨fst_s _ _ _, fun v hv => (hsome v 0 hv).1⟩, fun v k hv => ?_, fun u c k hu hz => absurd hz (hn _ _ _), fun v k hv => ?_, fst_s _ _ _, fun v k hv => ?_, fun v hv => ?_, fun u c _ => ⟨fun q => by (cases q), fun q => by obtain ⟨-, -, k, -, q⟩ := q; exact absurd q (hn _ _ _)⟩⟩
    · obtain ⟨rfl, rfl⟩ := hsome v k hv
      exact ⟨ht, by omega⟩
    · have := (hsome v _ hv).2; omega
    · have := (hsome v _ hv).2; omega
    · by_cases e : v = t
      · rw [e, fst_s] at hv; cases hv
      · rw [fst_n e]
  have hM0 : MFR M2 (fst (fun _ => none) t (some 0)) (fst (fun _ => 0) t 1) := fun v hv => by
    have e7 : gI M2 127 v = if v = t then 0 else 1000000 := by rw [a3, if_pos ⟨rfl, hv⟩]
    have e8 : gI M2 128 v = if v = t then 1 else 0 := by rw [a3, if_neg (show ¬ (128 = 127 ∧ v < 256) by omega), if_pos ⟨rfl, hv⟩]
    rw [e7, e8]
    by_cases e : v = t
    · rw [if_pos e, if_pos e, e, fst_s, fst_s]; exact ⟨rfl, rfl⟩
    · rw [if_neg e, if_neg e, fst_n e, fst_n e]; exact ⟨rfl, rfl⟩
  have key : ∃ o, f_Mo_layFar_l54 fu 0 M2 = some o ∧ (∃ B H dn, Sm M o.2 ∧ BWI (gph D) t (2 ^ D 0 0) 256 0 0 B H dn ∧ MFR o.2 B H) := by
    refine for_inv (fun z (s : Int32 × AM) => f_Mo_layFar_l54 z s.1 s.2) (fun n s => s.1 = nI n ∧ ∃ B H dn, Sm M s.2 ∧ BWI (gph D) t (2 ^ D 0 0) n 0 0 B H dn ∧ MFR s.2 B H) 256 _ (fun n s z hn hI => ?_) (fun s z hI => ?_) 256 0 (0, M2) fu (by omega) (by rw [fu_eq]; omega) ⟨rfl, _, _, _, sm2, hB0, hM0⟩
    · obtain ⟨v0, K⟩ := s
      obtain ⟨rfl, B, H, dn, i1, i2, i3⟩ := hI
      simp only at i1 i3
      left
      obtain ⟨K', B', H', dn', f1, f2, f3, f4⟩ := farL63 h hW i1 hn i2 i3
      refine ⟨(nI (n + 1), K'), ⟨rfl, B', H', dn', f2, f3, f4⟩, ?_⟩
      show f_Mo_layFar_b54 (f_Mo_layFar_l54 z) (nI n) K = _
      unfold f_Mo_layFar_b54
      rw [nI_lit 256, if_neg (nI_ge hn (by decide)), f1, bnd_s, nI_1]
    · obtain ⟨v0, K⟩ := s
      obtain ⟨rfl, B, H, dn, i1, i2, i3⟩ := hI
      refine ⟨((), K), ?_, B, H, dn, i1, i2, i3⟩
      show f_Mo_layFar_b54 (f_Mo_layFar_l54 z) (nI 256) K = _
      unfold f_Mo_layFar_b54
      rw [nI_lit 256, if_pos (nI_le (Nat.le_refl _) (by decide))]
  obtain ⟨⟨u, M'⟩, k1, B, H, dn, k2, k3, k4⟩ := key
  refine ⟨M', B, H, ?_, k2, k3.done h256l, k4, k3.2.2.2.2.2.2.1, fun v k hv => ⟨by have := (k3.2.1 v k hv).1; omega, k3.lt h256l hv⟩⟩
  unfold f_Mo_layFar
  rw [a1, bnd_s, k1, bnd_s]
theorem B_rows (a : Int32) : Both (f_C_rows a) (f_Mo_rows a) := by
  refine Both.ask fun D M h => ?_
  have h256l := p2_le h.1.1
  have hpic := h.pic'
  rcases in_cases a (2 ^ D 0 0) (by omega) with ⟨t, ht, rfl⟩ | ho
  · obtain ⟨M1, L, R, ps, PF, CB, k1, k2, k3⟩ := spread_ok h h.2.2.1.or h.cell h.cw
    refine ⟨R t, ⟨M1, ?_, k2⟩, fun M2 hs => ?_⟩
    · unfold f_C_rows
      rw [ckK_eq (pl_kd h), hasPicture_in h ht, bnd_s, if_neg (by decide), ckK_eq (pl_kd h), cur_ok h, bnd_s, k1, bnd_s, ald_nI (by omega) (by decide), k3.2.2.2.1 t (by omega)]
    · have hR := h.sm hs
      obtain ⟨M3, B, H, q1, q2, q3, q4, q5, q6⟩ := layFar_ok hR hR.mw ht
      refine ⟨M3, ?_, q2⟩
      unfold f_Mo_rows
      have hR3 := hR.sm q2
      rw [isPicture_in hR ht, bnd_s, if_neg (by decide), q1, bnd_s, now_ald hR3 0 0 rfl (by decide), ald_nI hpic (by decide), (q4 _ hpic).2]
      have e := FB_eq k3.1 q3
      cases hL : L t with
      | none =>
        rw [hL] at e
        rw [k3.2.2.2.2.2.2 t hL, q5 _ e.symm]
      | some n => rw [FB_row k3.1 q3 hL]
  · refine ⟨0, ⟨M, ?_, Sm.rfl'⟩, fun M1 hs => ⟨M1, ?_, Sm.rfl'⟩⟩
    · unfold f_C_rows
      rw [ckK_eq (pl_kd h), hasPicture_out h ho, bnd_s, if_pos rfl]
    · unfold f_Mo_rows
      rw [isPicture_out (h.sm hs) ho, bnd_s, if_pos rfl]
