/-! more, loosen -/
def fum (S : Nat → Bool) : Nat → Option Nat
  | 0 => none
  | k + 1 => match fum S k with
    | some m => some m
    | none => if S k = true then none else some k
theorem fum_n {S : Nat → Bool} {k : Nat} (h : fum S k = none) : fum S (k + 1) = if S k = true then none else some k := by simp only [fum, h]
theorem fum_s {S : Nat → Bool} {k m : Nat} (h : fum S k = some m) : fum S (k + 1) = some m := by simp only [fum, h]
theorem fum_none {S : Nat → Bool} : ∀ n, (fum S n = none ↔ ∀ k, k < n → S k = true) := by
  intro n
  induction n with
  | zero => exact ⟨fun _ k hk => by omega, fun _ => rfl⟩
  | succ n ih =>
    cases hf : fum S n with
    | none =>
      rw [fum_n hf]
      have h1 := ih.mp hf
      constructor
      · intro q k hk
        by_cases e : k = n
        · rw [e]
          by_cases hs : S n = true
          · exact hs
          · rw [if_neg hs] at q; cases q
        · exact h1 k (by omega)
      · intro q; rw [if_pos (q n (by omega))]
    | some m =>
      rw [fum_s hf]
      constructor
      · intro q; cases q
      · intro q
        have := ih.mpr (fun k hk => q k (by omega))
        rw [hf] at this; cases this
theorem fum_at {S : Nat → Bool} {k : Nat} (h : ∀ j, j < k → S j = true) (hk : ¬ S k = true) : ∀ d, fum S (k + 1 + d) = some k := by
  intro d
  induction d with
  | zero => rw [Nat.add_zero, fum_n ((fum_none k).mpr h), if_neg hk]
  | succ d ih => rw [← Nat.add_assoc]; exact fum_s ih
theorem fum_lt {S : Nat → Bool} {m : Nat} : ∀ n, fum S n = some m → m < n := by
  intro n
  induction n with
  | zero => intro h; cases h
  | succ n ih =>
    intro h
    cases hf : fum S n with
    | none =>
      rw [fum_n hf] at h
      by_cases hs : S n = true
      · rw [if_pos hs] at h; cases h
      · rw [if_neg hs] at h; cases h; omega
    | some q =>
      rw [fum_s hf] at h
      cases h
      have := ih hf
      omega
/-- what one cord more would give: which lamps, how many pictures -/
def mrs (S : Nat → Bool) (n1 k : Nat) : Int32 × Int32 := match fum S k with
  | none => (0, nI n1)
  | some m => (nI m, nI (n1 * 2))
theorem mrs_n {S : Nat → Bool} {n1 k : Nat} (h : fum S k = none) : mrs S n1 k = (0, nI n1) := by unfold mrs; rw [h]
theorem mrs_s {S : Nat → Bool} {n1 k m : Nat} (h : fum S k = some m) : mrs S n1 k = (nI m, nI (n1 * 2)) := by unfold mrs; rw [h]
theorem spb_lt {D : DT} (ho : okP D) {F v : Nat} (h : spb (D 3) F (D 0 1) v = true) : v < 2 ^ D 0 0 := by
  obtain ⟨s, -, rfl⟩ := (spb_iff _ _).mp h
  exact xt_lt ho s _ (Nat.le_refl _)
theorem nSp_full {D : DT} (ho : okP D) (F : Nat) : nSp (D 3) F (D 0 1) = 2 ^ D 0 0 ↔ fum (spb (D 3) F (D 0 1)) (2 ^ D 0 0) = none := by
  have h256 := p2_le ho.1
  have e : nSp (D 3) F (D 0 1) = cnt (spb (D 3) F (D 0 1)) (2 ^ D 0 0) := by
    have := cnt_more (P := spb (D 3) F (D 0 1)) (m := 2 ^ D 0 0) (256 - 2 ^ D 0 0) (fun k h1 h2 => by
      cases hq : spb (D 3) F (D 0 1) k with
      | false => rfl
      | true => have := spb_lt ho hq; omega)
    rw [show 2 ^ D 0 0 + (256 - 2 ^ D 0 0) = 256 by omega] at this
    exact this
  rw [e, cnt_all, fum_none]
theorem leastUnreached_ok {D : DT} {M : AM} (h : Rel D M) {F m : Nat} (hF : F < 256) (hm : fum (spb (D 3) F (D 0 1)) (2 ^ D 0 0) = some m) : ∃ M', f_Sets_leastUnreached (gR M 0 3) (nI F) M = some (nI m, M') ∧ Sm M M' := by
  have h256 := p2_le h.1.1
  have hpos := p2_pos (D 0 0)
  obtain ⟨b, M1, k1, k2, -, k3, k4⟩ := reach_ok h hF
  have hR := h.sm k2
  have hap := allPictures_ok hR
  have e3 : gR M 0 3 = gR M1 0 3 := (k2.1 0 3).symm
  refine ⟨M1, ?_, k2⟩
  unfold f_Sets_leastUnreached
  rw [k1, bnd_s, e3]
  generalize gR M1 0 3 = p at *
  have key : ∃ o, f_Sets_leastUnreached_l9 p fu (nI 1) M1 = some o ∧ o = .inr (nI m, M1) := by
    refine for_inv (fun z (s : Int32 × AM) => f_Sets_leastUnreached_l9 p z s.1 s.2) (fun k s => s = (nI k, M1) ∧ ∀ j, j < k → spb (D 3) F (D 0 1) j = true) (2 ^ D 0 0) _ (fun k s z hk hI => ?_) (fun s z hI => ?_) (2 ^ D 0 0 - 1) 1 (nI 1, M1) fu (by omega) (by rw [fu_eq]; omega) ⟨rfl, fun j hj => by rw [show j = 0 by omega]; exact spb_0 _ _ _⟩
    · obtain ⟨rfl, i2⟩ := hI
      have hlt := rs_lt (fun l hl => (k4.1 l hl).1) (show k < 256 by omega) 8 (Nat.le_refl _)
      have hb : f_Sets_leastUnreached_l9 p (z + 1) (nI k) M1 = if nI (rs b k 8) = 0 then f_Sets_leastUnreached_l9 p z (nI (k + 1)) M1 else some (.inr (nI k, M1)) := by
        show f_Sets_leastUnreached_b9 (f_Sets_leastUnreached_l9 p z) p (nI k) M1 = _
        unfold f_Sets_leastUnreached_b9
        rw [hap, bnd_s, if_neg (nI_ge hk (by omega)), restOf_ok k3 (fun l hl => (k4.1 l hl).1) (by omega), bnd_s, nI_1]
      by_cases hs : spb (D 3) F (D 0 1) k = true
      · left
        refine ⟨(nI (k + 1), M1), ⟨rfl, fun j hj => ?_⟩, ?_⟩
        · by_cases e : j = k
          · rw [e]; exact hs
          · exact i2 j (by omega)
        · show f_Sets_leastUnreached_l9 p (z + 1) (nI k) M1 = _
          rw [hb, (k4.iff k).mpr hs, if_pos nI_0]
      · right
        have e : fum (spb (D 3) F (D 0 1)) (2 ^ D 0 0) = some k := by
          have := fum_at i2 hs (2 ^ D 0 0 - (k + 1))
          rw [show k + 1 + (2 ^ D 0 0 - (k + 1)) = 2 ^ D 0 0 by omega] at this
          exact this
        rw [hm] at e
        cases e
        refine ⟨_, ?_, rfl⟩
        show f_Sets_leastUnreached_l9 p (z + 1) (nI m) M1 = _
        have hne : rs b m 8 ≠ 0 := fun q => hs ((k4.iff m).mp q)
        rw [hb, if_neg (nI_ne0 (by omega) (by omega))]
    · obtain ⟨rfl, i2⟩ := hI
      have := (fum_none (2 ^ D 0 0)).mpr i2
      rw [hm] at this
      cases this
  obtain ⟨o, q1, rfl⟩ := key
  rw [show f_Sets_leastUnreached_l9 p fu 1 M1 = f_Sets_leastUnreached_l9 p fu (nI 1) M1 from rfl, q1, bn2_r]
theorem B_more (a : Int32) : Both (f_C_more a) (f_Mo_more a) := by
  refine Both.of (fun D => if a = 0 then (mrs (spb (D 3) (frN (D 0 1) (D (10 + D 7 0) 1)) (D 0 1)) (nSp (D 3) (frN (D 0 1) (D (10 + D 7 0) 1)) (D 0 1)) (2 ^ D 0 0)).1 else if a = 1 then (mrs (spb (D 3) (frN (D 0 1) (D (10 + D 7 0) 1)) (D 0 1)) (nSp (D 3) (frN (D 0 1) (D (10 + D 7 0) 1)) (D 0 1)) (2 ^ D 0 0)).2 else -1) (fun D M h => ?_) (fun D M h => ?_)
  · have h256 := p2_le h.1.1
    obtain ⟨b, M1, k1, k2, -⟩ := reach_ok h h.fr'
    have hR := h.sm k2
    have hle := nSp_le (D 3) (frN (D 0 1) (D (10 + D 7 0) 1)) (D 0 1)
    unfold f_C_more
    rw [ckK_eq (pl_kd h), C_free_ok h, bnd_s, k1, bnd_s, ckK_eq (pl_kd hR), allPictures_ok hR, bnd_s]
    cases hf : fum (spb (D 3) (frN (D 0 1) (D (10 + D 7 0) 1)) (D 0 1)) (2 ^ D 0 0) with
    | none =>
      refine ⟨M1, ?_, k2⟩
      rw [if_pos (by rw [(nSp_full h.1 _).mpr hf]), either_eq, bnd_s, mrs_n hf]
    | some m =>
      obtain ⟨M2, q1, q2⟩ := leastUnreached_ok hR h.fr' hf
      refine ⟨M2, ?_, k2.trans q2⟩
      have hne : ¬ nSp (D 3) (frN (D 0 1) (D (10 + D 7 0) 1)) (D 0 1) = 2 ^ D 0 0 := fun e => by
        rw [(nSp_full h.1 _).mp e] at hf; cases hf
      rw [if_neg (fun e => hne ((nI_eq (by omega) (by omega)).mp e)), ckK_eq (pl_kd hR), C_free_ok hR, bnd_s, q1, bnd_s, either_eq, bnd_s, mrs_s hf, nI_lit 2, pk_mul]
  · have h256 := p2_le h.1.1
    have hnl := h.1.1
    have hpos := p2_pos (D 0 0)
    have hfr := h.fr'
    unfold f_Mo_more
    rw [isIn01, bnd_s]
    by_cases h01 : a = 0 ∨ a = 1
    · have hle := nSp_le (D 3) (frN (D 0 1) (D (10 + D 7 0) 1)) (D 0 1)
      have hn1 := nSp_pos (D 3) (frN (D 0 1) (D (10 + D 7 0) 1)) (D 0 1)
      have hfo : ∀ N, Rel D N → f_Mo_free N = some (nI (frN (D 0 1) (D (10 + D 7 0) 1)), N) := fun N hN => Mo_free_ok hN
      have hlay : ∀ N k, Rel D N → k < 256 → ∃ M', f_Mo_layPictures (nI (frN (D 0 1) (D (10 + D 7 0) 1))) (nI k) N = some (nI (if spb (D 3) (frN (D 0 1) (D (10 + D 7 0) 1)) (D 0 1) k = true then nSp (D 3) (frN (D 0 1) (D (10 + D 7 0) 1)) (D 0 1) else nSp (D 3) (frN (D 0 1) (D (10 + D 7 0) 1)) (D 0 1) * 2), M') ∧ Sm N M' := fun N k hN hk => by
        obtain ⟨M', q1, q2, -⟩ := layPictures_ok hN hfr hk
        rw [cnt_tha hN _ hk] at q1
        exact ⟨M', q1, q2⟩
      have hS0 := spb_0 (D 3) (frN (D 0 1) (D (10 + D 7 0) 1)) (D 0 1)
      generalize nSp (D 3) (frN (D 0 1) (D (10 + D 7 0) 1)) (D 0 1) = n1 at *
      generalize spb (D 3) (frN (D 0 1) (D (10 + D 7 0) 1)) (D 0 1) = S at *
      generalize frN (D 0 1) (D (10 + D 7 0) 1) = F at *
      have key : ∃ o, f_Mo_more_l18 a fu (-1) (-1) 0 M = some o ∧ (o.1 = mrs S n1 (2 ^ D 0 0) ∧ Sm M o.2) := by
        refine for_inv (fun z (s : Int32 × Int32 × Int32 × AM) => f_Mo_more_l18 a z s.1 s.2.1 s.2.2.1 s.2.2.2) (fun k s => (s.1, s.2.1) = (if k = 0 then (-1, -1) else mrs S n1 k) ∧ s.2.2.1 = nI k ∧ Sm M s.2.2.2) (2 ^ D 0 0) _ (fun k s z hk hI => ?_) (fun s z hI => ?_) (2 ^ D 0 0) 0 (-1, -1, 0, M) fu (by omega) (by rw [fu_eq]; omega) ⟨rfl, rfl, Sm.rfl'⟩
        · obtain ⟨v1, v2, v3, N⟩ := s
          obtain ⟨i0, rfl, i1⟩ := hI
          simp only at i0 i1
          left
          have hR := h.sm i1
          obtain ⟨N', q1, q2⟩ := hlay N k hR (by omega)
          have hb : f_Mo_more_l18 a (z + 1) v1 v2 (nI k) N = if v2 < nI (if S k = true then n1 else n1 * 2) then f_Mo_more_l18 a z (nI k) (nI (if S k = true then n1 else n1 * 2)) (nI (k + 1)) N' else f_Mo_more_l18 a z v1 v2 (nI (k + 1)) N' := by
            show f_Mo_more_b18 (f_Mo_more_l18 a z) a v1 v2 (nI k) N = _
            unfold f_Mo_more_b18
            rw [hR.2.2.2.2.2.1.1.1, nx_one _ (by omega), if_neg (nI_ge hk (by omega)), hfo N hR, bnd_s, q1, bnd_s, nI_1]
          by_cases k0 : k = 0
          · subst k0
            rw [if_pos rfl] at i0
            cases i0
            refine ⟨(0, nI n1, nI 1, N'), ⟨?_, rfl, i1.trans q2⟩, ?_⟩
            · show (0, nI n1) = if 0 + 1 = 0 then (-1, -1) else mrs S n1 (0 + 1)
              rw [if_neg (by decide), mrs_n (by rw [fum_n rfl, if_pos hS0])]
            · show f_Mo_more_l18 a (z + 1) (-1) (-1) (nI 0) N = f_Mo_more_l18 a z 0 (nI n1) (nI 1) N'
              rw [hb, if_pos hS0, if_pos (m1_lt (by omega))]
              rfl
          · rw [if_neg k0] at i0
            have fin : ∀ x y, (x, y) = mrs S n1 (k + 1) → f_Mo_more_l18 a (z + 1) v1 v2 (nI k) N = f_Mo_more_l18 a z x y (nI (k + 1)) N' → ∃ s' : Int32 × Int32 × Int32 × AM, ((s'.1, s'.2.1) = (if k + 1 = 0 then (-1, -1) else mrs S n1 (k + 1)) ∧ s'.2.2.1 = nI (k + 1) ∧ Sm M s'.2.2.2) ∧ f_Mo_more_l18 a (z + 1) v1 v2 (nI k) N = f_Mo_more_l18 a z s'.1 s'.2.1 s'.2.2.1 s'.2.2.2 := fun x y e1 e2 => ⟨(x, y, nI (k + 1), N'), ⟨by rw [if_neg (by omega)]; exact e1, rfl, i1.trans q2⟩, e2⟩
            cases hf : fum S k with
            | none =>
              rw [mrs_n hf] at i0
              cases i0
              by_cases hs : S k = true
              · refine fin 0 (nI n1) (by rw [mrs_n (by rw [fum_n hf, if_pos hs])]) ?_
                rw [hb, if_pos hs, if_neg Int32.lt_irrefl]
              · refine fin (nI k) (nI (n1 * 2)) (by rw [mrs_s (by rw [fum_n hf, if_neg hs])]) ?_
                rw [hb, if_neg hs, if_pos (nI_lt (by omega) (by omega))]
            | some m =>
              rw [mrs_s hf] at i0
              cases i0
              refine fin (nI m) (nI (n1 * 2)) (by rw [mrs_s (fum_s hf)]) ?_
              rw [hb, if_neg]
              refine nI_nlt ?_ (by omega)
              split <;> omega
        · obtain ⟨v1, v2, v3, N⟩ := s
          obtain ⟨i0, rfl, i1⟩ := hI
          simp only at i0 i1
          have hR := h.sm i1
          rw [if_neg (by omega)] at i0
          refine ⟨((v1, v2), N), ?_, i0, i1⟩
          show f_Mo_more_b18 (f_Mo_more_l18 a z) a v1 v2 (nI (2 ^ D 0 0)) N = _
          unfold f_Mo_more_b18
          rw [hR.2.2.2.2.2.1.1.1, nx_one _ (by omega), if_pos (nI_le (Nat.le_refl _) (by omega))]
      obtain ⟨⟨v, M1⟩, e1, e2, e3⟩ := key
      simp only at e2
      refine ⟨M1, ?_, e3⟩
      rw [if_pos h01, if_neg (by decide), e1, bnd_s, e2]
      by_cases h0 : a = 0
      · rw [if_pos h0, if_pos h0]
      · rw [if_neg h0, if_neg h0, if_pos (h01.resolve_left h0)]
    · exact ⟨M, by rw [if_neg h01, if_pos rfl, if_neg (fun q => h01 (Or.inl q)), if_neg (fun q => h01 (Or.inr q))], Sm.rfl'⟩
/-- of the tied cords the one that would give the most -/
def lsc (D : DT) (c : Nat) : Option Int32 := if (D (10 + D 7 0) 1).testBit c = true then some (-nI (nSp (D 3) (frN (D 0 1) (D (10 + D 7 0) 1) ^^^ 2 ^ c) (D 0 1))) else none
theorem lsc_some {D : DT} {c : Nat} {s : Int32} (h : lsc D c = some s) : (D (10 + D 7 0) 1).testBit c = true ∧ s = -nI (nSp (D 3) (frN (D 0 1) (D (10 + D 7 0) 1) ^^^ 2 ^ c) (D 0 1)) := by
  unfold lsc at h
  by_cases q : (D (10 + D 7 0) 1).testBit c = true
  · rw [if_pos q] at h; cases h; exact ⟨q, rfl⟩
  · rw [if_neg q] at h; cases h
theorem nSp_more {D : DT} (ho : okP D) {F c : Nat} (hc : c < D 0 1) (hF : F.testBit c = false) : nSp (D 3) (F ^^^ 2 ^ c) (D 0 1) = if spb (D 3) F (D 0 1) (D 3 c) = true then nSp (D 3) F (D 0 1) else nSp (D 3) F (D 0 1) * 2 := by
  have h256 := p2_le ho.1
  have ht := (ho.2.2.2.2.2.2.2.1 c hc).1
  rw [← cnt_two (by omega)]
  exact cnt_ext 256 (fun v _ => spb_more hc hF)
theorem B_loosen : Both f_C_loosen f_Mo_loosen := by
  refine Both.of (fun D => bp (scn (lsc D) (D 0 1))) (fun D M h => ?_) (fun D M h => ?_)
  · obtain ⟨M0, c1, c2, c3⟩ := clear_ok M
    have hnc := h.1.2.1
    have htd := h.tied'
    have hfr := h.fr'
    have htb := fr_tball h
    have hgr : ∀ N, Sm M N → gR N 0 3 = gR M 0 3 := fun N hN => hN.1 0 3
    have hac := allCords_ok h
    have hFI : nI (2 ^ D 0 1 - 1) &&& (nI (D (10 + D 7 0) 1) ^^^ (-1)) = nI (frN (D 0 1) (D (10 + D 7 0) 1)) := by
      have := fr_I (D 0 1) (by omega) _ h.tied' h.tied
      rw [nx_one _ (by omega), nI_sub1 (p2_pos _)] at this
      exact this
    have key := cordsC h (f_Sets_bestLoosened_l19 (gR M 0 3) (nI (D (10 + D 7 0) 1)) (nI (frN (D 0 1) (D (10 + D 7 0) 1)))) (fun c => (D (10 + D 7 0) 1).testBit c = true) (fun _ => inferInstanceAs (Decidable (_ = _))) (fun c => -nI (nSp (D 3) (frN (D 0 1) (D (10 + D 7 0) 1) ^^^ 2 ^ c) (D 0 1))) c3 c2
    unfold f_C_loosen f_Sets_bestLoosened
    rw [ckK_eq (pl_kd h), cur_ok h, bnd_s, hac, bnd_s, c1, bnd_s, cst h (by decide), hFI]
    generalize gR M 0 3 = p at *
    generalize gR M 39 (D 7 0) = r at *
    obtain ⟨o, M1, k1, k2, k3, k4⟩ := key
      (fun k z N h2 hN hv hR hc => by
        obtain ⟨v1, v2, v3, v4, v5, v6, v7⟩ := hv
        show f_Sets_bestLoosened_b19 (f_Sets_bestLoosened_l19 p _ _ z) p _ _ (nI k) N = _
        unfold f_Sets_bestLoosened_b19
        rw [v5, if_neg (nI_ge h2 (by omega)), nx_bit (by omega) (by omega), tb_mod, if_neg hc, if_pos nI_0, nI_1])
      (fun k z N h2 hN hv hR hA => by
        obtain ⟨v1, v2, v3, v4, v5, v6, v7⟩ := hv
        have hf0 : (frN (D 0 1) (D (10 + D 7 0) 1)).testBit k = false := by rw [htb, hA]; simp
        obtain ⟨b, N1, q1, q2, q3, -⟩ := reach_ok hR (x2_lt hfr (show k < 8 by omega))
        rw [hgr N hN] at q1
        refine ⟨N1, ?_, q2, q3⟩
        show f_Sets_bestLoosened_b19 (f_Sets_bestLoosened_l19 p _ _ z) p _ _ (nI k) N = _
        unfold f_Sets_bestLoosened_b19
        rw [v5, if_neg (nI_ge h2 (by omega)), nx_bit (by omega) (by omega), tb_mod, if_pos hA, if_neg (by decide), lo_I k (by omega) _ hfr hf0, q1, bnd_s, nI_1])
      (fun z N hN hv hR => by
        obtain ⟨v1, v2, v3, v4, v5, v6, v7⟩ := hv
        show f_Sets_bestLoosened_b19 (f_Sets_bestLoosened_l19 p _ _ z) p _ _ (nI (D 0 1)) N = _
        unfold f_Sets_bestLoosened_b19
        rw [v5, if_pos (nI_le (Nat.le_refl _) (by omega))])
    have ho : o = scn (lsc D) (D 0 1) := by
      refine k1.uni ((scn_ok (lsc D) _).ext (fun s q => ⟨?_, ?_⟩))
      · rintro ⟨h1, h2⟩
        obtain ⟨h3, rfl⟩ := lsc_some h2
        exact ⟨h1, h3, rfl⟩
      · rintro ⟨x1, x2, rfl⟩
        exact ⟨x1, if_pos x2⟩
    rw [nI_0] at k3
    exact ⟨M1, by rw [k3, bnd_s, bnd_s, k2.1, ho], k4⟩
  · have hnc := h.1.2.1
    have h256 := p2_le h.1.1
    have hfr := h.fr'
    have htb := fr_tball h
    have key : ∃ o, f_Mo_loosen_l6 fu (-1) (-1) 0 M = some o ∧ (o.1 = bp (scn (lsc D) (D 0 1)) ∧ Sm M o.2) := by
      refine for_inv (fun z (s : Int32 × Int32 × Int32 × AM) => f_Mo_loosen_l6 z s.1 s.2.1 s.2.2.1 s.2.2.2) (fun k s => s.1 = bp (scn (lsc D) k) ∧ s.2.1 = bdm (scn (lsc D) k) ∧ s.2.2.1 = nI k ∧ Sm M s.2.2.2) (D 0 1) _ (fun k s z hk hI => ?_) (fun s z hI => ?_) (D 0 1) 0 (-1, -1, 0, M) fu (by omega) (by rw [fu_eq]; omega) ⟨rfl, rfl, rfl, Sm.rfl'⟩
      · obtain ⟨v1, v2, v3, N⟩ := s
        obtain ⟨rfl, rfl, rfl, i1⟩ := hI
        simp only at i1
        left
        have hR := h.sm i1
        by_cases ht : (D (10 + D 7 0) 1).testBit k = true
        · have hf0 : (frN (D 0 1) (D (10 + D 7 0) 1)).testBit k = false := by rw [htb, ht]; simp
          have htk := (h.1.2.2.2.2.2.2.2.1 k hk).1
          obtain ⟨N', q1, q2, -⟩ := layPictures_ok hR hfr (show D 3 k < 256 by omega)
          rw [cnt_tha hR _ (show D 3 k < 256 by omega), ← nSp_more h.1 hk hf0] at q1
          have hle := nSp_le (D 3) (frN (D 0 1) (D (10 + D 7 0) 1) ^^^ 2 ^ k) (D 0 1)
          have hc : lsc D k = some (-nI (nSp (D 3) (frN (D 0 1) (D (10 + D 7 0) 1) ^^^ 2 ^ k) (D 0 1))) := if_pos ht
          refine ⟨(bp (scn (lsc D) (k + 1)), bdm (scn (lsc D) (k + 1)), nI (k + 1), N'), ⟨rfl, rfl, rfl, i1.trans q2⟩, ?_⟩
          show f_Mo_loosen_b6 (f_Mo_loosen_l6 z) (bp (scn (lsc D) k)) (bdm (scn (lsc D) k)) (nI k) N = f_Mo_loosen_l6 z (bp (scn (lsc D) (k + 1))) (bdm (scn (lsc D) (k + 1))) (nI (k + 1)) N'
          unfold f_Mo_loosen_b6 f_Mo_loosen_j40
          rw [hR.2.2.2.2.2.1.1.2.2.1, if_neg (nI_ge hk (by omega)), isTied_ok hR (by omega), bnd_s, if_pos ht, if_neg (by decide), Mo_free_ok hR, bnd_s, ald_nI (by omega) (by decide), (hR.2.2.2.2.2.1.2.2.1 k hk).1, q1, bnd_s, nI_1]
          cases hs : scn (lsc D) k with
          | none =>
            rw [scn_0 hc hs]
            show (if (-1 : Int32) < nI (nSp (D 3) (frN (D 0 1) (D (10 + D 7 0) 1) ^^^ 2 ^ k) (D 0 1)) then _ else _) = f_Mo_loosen_l6 z (nI k) (-(-nI (nSp (D 3) (frN (D 0 1) (D (10 + D 7 0) 1) ^^^ 2 ^ k) (D 0 1)))) (nI (k + 1)) N'
            rw [if_pos (m1_lt (by omega)), negneg]
          | some q =>
            obtain ⟨s, p⟩ := q
            have hp := lsc_some (scn_in hs).2
            have l9 := nSp_le (D 3) (frN (D 0 1) (D (10 + D 7 0) 1) ^^^ 2 ^ p) (D 0 1)
            rw [scn_1 hc hs, hp.2]
            show (if -(-nI (nSp (D 3) (frN (D 0 1) (D (10 + D 7 0) 1) ^^^ 2 ^ p) (D 0 1))) < nI (nSp (D 3) (frN (D 0 1) (D (10 + D 7 0) 1) ^^^ 2 ^ k) (D 0 1)) then f_Mo_loosen_l6 z (nI k) (nI (nSp (D 3) (frN (D 0 1) (D (10 + D 7 0) 1) ^^^ 2 ^ k) (D 0 1))) (nI (k + 1)) N' else f_Mo_loosen_l6 z (nI p) (-(-nI (nSp (D 3) (frN (D 0 1) (D (10 + D 7 0) 1) ^^^ 2 ^ p) (D 0 1)))) (nI (k + 1)) N') = _
            rw [negneg]
            by_cases w : nSp (D 3) (frN (D 0 1) (D (10 + D 7 0) 1) ^^^ 2 ^ p) (D 0 1) < nSp (D 3) (frN (D 0 1) (D (10 + D 7 0) 1) ^^^ 2 ^ k) (D 0 1)
            · rw [if_pos (nI_lt w (by omega)), if_pos ((neg_lt_I (by omega) (by omega)).mpr w)]
              show _ = f_Mo_loosen_l6 z (nI k) (-(-nI (nSp (D 3) (frN (D 0 1) (D (10 + D 7 0) 1) ^^^ 2 ^ k) (D 0 1)))) (nI (k + 1)) N'
              rw [negneg]
            · rw [if_neg (nI_nlt (by omega) (by omega)), if_neg (fun y => w ((neg_lt_I (by omega) (by omega)).mp y))]
              show _ = f_Mo_loosen_l6 z (nI p) (-(-nI (nSp (D 3) (frN (D 0 1) (D (10 + D 7 0) 1) ^^^ 2 ^ p) (D 0 1)))) (nI (k + 1)) N'
              rw [negneg]
        · have hc : lsc D k = none := if_neg ht
          refine ⟨(bp (scn (lsc D) (k + 1)), bdm (scn (lsc D) (k + 1)), nI (k + 1), N), ⟨rfl, rfl, rfl, i1⟩, ?_⟩
          show f_Mo_loosen_b6 (f_Mo_loosen_l6 z) (bp (scn (lsc D) k)) (bdm (scn (lsc D) k)) (nI k) N = f_Mo_loosen_l6 z (bp (scn (lsc D) (k + 1))) (bdm (scn (lsc D) (k + 1))) (nI (k + 1)) N
          unfold f_Mo_loosen_b6 f_Mo_loosen_j40
          rw [hR.2.2.2.2.2.1.1.2.2.1, if_neg (nI_ge hk (by omega)), isTied_ok hR (by omega), bnd_s, if_neg ht, if_pos rfl, nI_1, scn_n hc, if_neg]
          cases hs : scn (lsc D) k with
          | none => decide
          | some q =>
            obtain ⟨s, p⟩ := q
            have := lsc_some (scn_in hs).2
            show ¬ -s < -1
            rw [this.2, negneg]
            have l9 := nSp_le (D 3) (frN (D 0 1) (D (10 + D 7 0) 1) ^^^ 2 ^ p) (D 0 1)
            intro w
            exact absurd (m1_lt (a := nSp (D 3) (frN (D 0 1) (D (10 + D 7 0) 1) ^^^ 2 ^ p) (D 0 1)) (by omega)) (Int32.not_lt.mpr (Int32.le_of_lt w))
      · obtain ⟨v1, v2, v3, N⟩ := s
        obtain ⟨rfl, rfl, rfl, i1⟩ := hI
        simp only at i1
        have hR := h.sm i1
        refine ⟨(bp (scn (lsc D) (D 0 1)), N), ?_, rfl, i1⟩
        show f_Mo_loosen_b6 (f_Mo_loosen_l6 z) (bp (scn (lsc D) (D 0 1))) (bdm (scn (lsc D) (D 0 1))) (nI (D 0 1)) N = _
        unfold f_Mo_loosen_b6
        rw [hR.2.2.2.2.2.1.1.2.2.1, if_pos (nI_le (Nat.le_refl _) (by omega))]
    obtain ⟨⟨v, M1⟩, e1, e2, e3⟩ := key
    simp only at e2
    refine ⟨M1, ?_, e3⟩
    unfold f_Mo_loosen
    rw [e1, bnd_s, e2]
