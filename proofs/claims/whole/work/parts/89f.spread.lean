/-! the class's search on the machine -/
def gph (D : DT) : GRT := (D 3, D 0 1, fun c => !(D (10 + D 7 0) 1).testBit c, fun q => decide (D 0 3 ≤ pc q))
def lvI : Option Nat → Int32
  | none => -1
  | some n => nI n
def MBF (N : AM) (Q : Nat) (g kf cb : Nat → Nat) (L : Nat → Option Nat) (R : Nat → Int32) : Prop :=
  gI N 92 4 = nI Q ∧ (∀ j, j < Q → gI N 96 j = nI (g j)) ∧ (∀ v, v < 256 → gI N 93 v = lvI (L v)) ∧ (∀ v, v < 256 → gI N 97 v = R v) ∧
  (∀ j, 1 ≤ j → j < Q → gI N 94 (g j) = nI (g (kf j)) ∧ gI N 95 (g j) = nI (cb j))
theorem lvI_pos {n : Nat} (h : n < 256) : ¬ lvI (some n) < 0 := nI_pos (by omega)
theorem scrP : (∀ j, scr 93 j) ∧ (∀ j, scr 94 j) ∧ (∀ j, scr 95 j) ∧ (∀ j, scr 96 j) ∧ (∀ j, scr 97 j) ∧ scr 92 4 := by
  unfold scr
  refine ⟨fun j => ?_, fun j => ?_, fun j => ?_, fun j => ?_, fun j => ?_, ?_⟩ <;> omega
/-- the counting of rows -/
theorem come67 {N : AM} {u v n m : Nat} {Ru Rv : Int32} (hu : u < 256) (hv : v < 256) (hn : gI N 93 u = nI n) (hm : gI N 93 v = nI m) (hn2 : n < 256) (hm2 : m < 1000) (h1 : gI N 97 u = Ru) (h2 : gI N 97 v = Rv) : f_Paths_come_j67 (nI u) (nI v) N = some ((), if m = n + 1 then sI N 97 v (Rv + Ru) else N) := by
  unfold f_Paths_come_j67
  rw [ald_nI hv (by decide), ald_nI hu (by decide), hn, hm, nI_1]
  by_cases e : m = n + 1
  · rw [if_pos (by rw [e]), ald_nI hv (by decide), ald_nI hu (by decide), h1, h2, ast_nI hv (by decide), if_pos e]
  · rw [if_neg (fun q => e ((nI_eq (by omega) (by omega)).mp q)), if_neg e]
theorem come_ok {G : GRT} {s i c Q : Nat} {g kf cb : Nat → Nat} {L : Nat → Option Nat} {R : Nat → Int32} {dn : Nat → Nat → Bool} {M N : AM} (hN : Sm M N) (hB : BFI G s i c Q g kf cb L R dn) (hM : MBF N Q g kf cb L R) (hi : i < Q) (hc : c < G.2.1) (hf : G.2.2.1 c = true) (ho : G.2.2.2 (g i ^^^ G.1 c) = true) (h256 : g i ^^^ G.1 c < 256) : ∃ N' Q' g' kf' cb' L' R' dn', f_Paths_come (nI (g i)) (nI c) (nI (g i ^^^ G.1 c)) N = some ((), N') ∧ Sm M N' ∧ BFI G s i (c + 1) Q' g' kf' cb' L' R' dn' ∧ MBF N' Q' g' kf' cb' L' R' ∧ i < Q' ∧ g' i = g i := by
  obtain ⟨m1, m2, m3, m4, m5⟩ := hM
  obtain ⟨gi, n, hn, hni⟩ := hB.2.1 i hi
  have hQ := hB.1.2.1
  have hsN := fun m (hm : L (g i ^^^ G.1 c) = some m) => hB.seen hi hc hf ho hn hm
  have hnew := hB.new hi hc hf ho hn
  have hroom := fun hm => hB.room h256 hm
  have hlvl := fun n => hB.lvl (v := g i ^^^ G.1 c) (n := n)
  have hmem := hB.2.1
  generalize hv : g i ^^^ G.1 c = v at *
  have hu93 : gI N 93 (g i) = nI n := by rw [m3 _ gi, hn]; rfl
  unfold f_Paths_come
  rw [ald_nI h256 (by decide), m3 v h256]
  cases hL : L v with
  | some m =>
    have hml := (hlvl m hL).2
    rw [if_pos (show 0 ≤ lvI (some m) from nI_pos' (by omega)), come67 gi h256 hu93 (by rw [m3 v h256, hL]; rfl) (by omega) (by omega) (m4 _ gi) (m4 v h256)]
    refine ⟨_, Q, g, kf, cb, L, _, _, rfl, ?_, hsN _ hL, ⟨?_, fun j hj => ?_, fun w hw => ?_, fun w hw => ?_, fun j a b => ?_⟩, hi, rfl⟩
    · split
      · exact hN.sI (scrP.2.2.2.2.1 _)
      · exact hN
    · split
      · rw [gI_sI, if_neg (by omega)]; exact m1
      · exact m1
    · split
      · rw [gI_sI, if_neg (by omega)]; exact m2 j hj
      · exact m2 j hj
    · split
      · rw [gI_sI, if_neg (by omega)]; exact m3 w hw
      · exact m3 w hw
    · by_cases e : m = n + 1
      · rw [if_pos e, if_pos e, gI_sI]
        by_cases ew : w = v
        · rw [if_pos ⟨rfl, ew⟩, ew, fst_s]
        · rw [if_neg (fun z => ew z.2), fst_n ew]; exact m4 w hw
      · rw [if_neg e, if_neg e]; exact m4 w hw
    · split
      · rw [gI_sI, if_neg (by omega), gI_sI, if_neg (by omega)]; exact m5 j a b
      · exact m5 j a b
  | none =>
    have hQ2 := hroom hL
    have hnot : ∀ j, j < Q → g j ≠ v := fun j hj e => by
      obtain ⟨-, k, a, -⟩ := hmem j hj
      rw [e, hL] at a; cases a
    have hR0 : R v = 0 := hB.2.2.2.2.2.2.2.2.2.1 v hL
    rw [if_neg (show ¬ 0 ≤ lvI none by decide), m1, nI_lit 256, if_neg (nI_ge hQ2 (by decide)), ald_nI gi (by decide), hu93, ast_nI h256 (by decide), ast_nI h256 (by decide), ast_nI h256 (by decide)]
    have q4 : gI (sI (sI (sI N 93 v (nI n + 1)) 94 v (nI (g i))) 95 v (nI c)) 92 4 = nI Q := by
      rw [gI_sI, if_neg (by omega), gI_sI, if_neg (by omega), gI_sI, if_neg (by omega)]; exact m1
    rw [q4, ast_nI hQ2 (by decide), wI_eq]
    have q5 : gI (sI (sI (sI (sI N 93 v (nI n + 1)) 94 v (nI (g i))) 95 v (nI c)) 96 Q (nI v)) 92 4 = nI Q := by rw [gI_sI, if_neg (by omega)]; exact q4
    rw [q5, nI_1, nI_1]
    generalize hK : sI (sI (sI (sI (sI N 93 v (nI (n + 1))) 94 v (nI (g i))) 95 v (nI c)) 96 Q (nI v)) 92 4 (nI (Q + 1)) = K
    have kI : ∀ a b, gI K a b = if a = 92 ∧ b = 4 then nI (Q + 1) else if a = 96 ∧ b = Q then nI v else if a = 95 ∧ b = v then nI c else if a = 94 ∧ b = v then nI (g i) else if a = 93 ∧ b = v then nI (n + 1) else gI N a b := fun a b => by
      rw [← hK, gI_sI, gI_sI, gI_sI, gI_sI, gI_sI]
    have kS : Sm M K := by
      rw [← hK]
      exact ((((hN.sI (scrP.1 _)).sI (scrP.2.1 _)).sI (scrP.2.2.1 _)).sI (scrP.2.2.2.1 _)).sI scrP.2.2.2.2.2
    have hgiv : g i ≠ v := hnot i hi
    have k93u : gI K 93 (g i) = nI n := by rw [kI, if_neg (by omega), if_neg (by omega), if_neg (by omega), if_neg (by omega), if_neg (by omega)]; exact hu93
    have k93v : gI K 93 v = nI (n + 1) := by rw [kI, if_neg (by omega), if_neg (by omega), if_neg (by omega), if_neg (by omega), if_pos ⟨rfl, rfl⟩]
    have k97 : ∀ w, gI K 97 w = gI N 97 w := fun w => by rw [kI, if_neg (by omega), if_neg (by omega), if_neg (by omega), if_neg (by omega), if_neg (by omega)]
    rw [come67 gi h256 k93u k93v (by omega) (by omega) ((k97 _).trans (m4 _ gi)) ((k97 _).trans (m4 v h256)), if_pos rfl]
    refine ⟨_, Q + 1, _, _, _, _, _, _, rfl, kS.sI (scrP.2.2.2.2.1 _), hnew hL h256, ⟨?_, fun j hj => ?_, fun w hw => ?_, fun w hw => ?_, fun j a b => ?_⟩, by omega, fst_n (by omega)⟩
    · rw [gI_sI, if_neg (by omega), kI, if_pos ⟨rfl, rfl⟩]
    · rw [gI_sI, if_neg (by omega), kI, if_neg (by omega)]
      by_cases e : j = Q
      · rw [if_pos ⟨rfl, e⟩, e, fst_s]
      · rw [if_neg (fun z => e z.2), if_neg (by omega), if_neg (by omega), if_neg (by omega), fst_n e]
        exact m2 j (by omega)
    · rw [gI_sI, if_neg (by omega), kI, if_neg (by omega), if_neg (by omega), if_neg (by omega), if_neg (by omega)]
      by_cases e : w = v
      · rw [if_pos ⟨rfl, e⟩, e, fst_s]; rfl
      · rw [if_neg (fun z => e z.2), fst_n e]; exact m3 w hw
    · rw [gI_sI]
      by_cases e : w = v
      · rw [if_pos ⟨rfl, e⟩, e, fst_s]
      · rw [if_neg (fun z => e z.2), k97, fst_n e]; exact m4 w hw
    · rw [gI_sI, if_neg (by omega), gI_sI, if_neg (by omega), kI, kI]
      by_cases e : j = Q
      · rw [e, fst_s, fst_s, fst_s, fst_n (show i ≠ Q by omega), if_neg (by omega), if_neg (by omega), if_neg (by omega), if_pos ⟨rfl, rfl⟩, if_neg (by omega), if_neg (by omega), if_pos ⟨rfl, rfl⟩]
        exact ⟨rfl, rfl⟩
      · have hkf := (hB.2.2.2.2.1 j a (by omega)).1
        have hgj := hnot j (by omega)
        rw [fst_n e, fst_n e, fst_n e, fst_n (show kf j ≠ Q by omega), if_neg (by omega), if_neg (by omega), if_neg (by omega), if_neg (fun z => hgj z.2), if_neg (by omega), if_neg (by omega), if_neg (by omega), if_neg (fun z => hgj z.2), if_neg (by omega), if_neg (by omega)]
        exact m5 j a (by omega)
theorem spreadI (p r : Nat) (M : AM) : ∃ M', f_Paths_spread_l2 p r fu 0 M = some ((), M') ∧ (∀ c k, gR M' c k = gR M c k) ∧ ∀ c k, gI M' c k = if c = 93 ∧ k < 256 then -1 else if c = 97 ∧ k < 256 then 0 else gI M c k := by
  have key : ∃ o, f_Paths_spread_l2 p r fu 0 M = some o ∧ ((∀ c k, gR o.2 c k = gR M c k) ∧ ∀ c k, gI o.2 c k = if c = 93 ∧ k < 256 then -1 else if c = 97 ∧ k < 256 then 0 else gI M c k) := by
    refine for_inv (fun z (s : Int32 × AM) => f_Paths_spread_l2 p r z s.1 s.2) (fun j s => s.1 = nI j ∧ (∀ c k, gR s.2 c k = gR M c k) ∧ ∀ c k, gI s.2 c k = if c = 93 ∧ k < j then -1 else if c = 97 ∧ k < j then 0 else gI M c k) 256 _ (fun j s z hj hI => ?_) (fun s z hI => ?_) 256 0 (0, M) fu (by omega) (by rw [fu_eq]; omega) ⟨rfl, fun _ _ => rfl, fun c k => by rw [if_neg (by omega), if_neg (by omega)]⟩
    · obtain ⟨v, N⟩ := s
      obtain ⟨rfl, i1, i2⟩ := hI
      simp only at i1 i2
      left
      refine ⟨(nI (j + 1), sI (sI N 93 j (-1)) 97 j 0), ⟨rfl, i1, fun c k => ?_⟩, ?_⟩
      · show gI (sI _ _ _ _) c k = _
        rw [gI_sI, gI_sI, i2]
        by_cases a1 : c = 97 ∧ k = j
        · rw [if_pos a1, if_neg (by omega), if_pos (by omega)]
        · rw [if_neg a1]
          by_cases a2 : c = 93 ∧ k = j
          · rw [if_pos a2, if_pos (by omega)]
          · rw [if_neg a2]
            by_cases a3 : c = 93 ∧ k < j
            · rw [if_pos a3, if_pos (by omega)]
            · rw [if_neg a3, if_neg (show ¬ (c = 93 ∧ k < j + 1) by omega)]
              by_cases a4 : c = 97 ∧ k < j
              · rw [if_pos a4, if_pos (by omega)]
              · rw [if_neg a4, if_neg (by omega)]
      · show f_Paths_spread_b2 (f_Paths_spread_l2 p r z) p r (nI j) N = _
        unfold f_Paths_spread_b2
        rw [nI_lit 256, if_neg (nI_ge hj (by decide)), ast_nI hj (by decide), ast_nI hj (by decide), nI_1]
    · obtain ⟨v, N⟩ := s
      obtain ⟨rfl, i1, i2⟩ := hI
      refine ⟨((), N), ?_, i1, i2⟩
      show f_Paths_spread_b2 (f_Paths_spread_l2 p r z) p r (nI 256) N = _
      unfold f_Paths_spread_b2
      rw [nI_lit 256, if_pos (nI_le (Nat.le_refl _) (by decide))]
  obtain ⟨⟨u, M'⟩, k1, k2, k3⟩ := key
  exact ⟨M', k1, k2, k3⟩
/-- what the search looks at -/
def CW (D : DT) (p r : Nat) (N : AM) : Prop := gI N p 6 = nI (D 0 1) ∧ (∀ c, c < D 0 1 → gI N (p + 6) c = nI (D 3 c)) ∧ gI N r 1 = nI (D (10 + D 7 0) 1) ∧ gI N p 14 = nI (D 0 3) ∧ gI N r 0 = nI (D (10 + D 7 0) 0)
theorem CW.sm {D : DT} {p r : Nat} {M N : AM} (hp : p = 8 ∨ p = 23) (hr : 40 ≤ r ∧ r ≤ 80) (h : CW D p r M) (hs : Sm M N) : CW D p r N := by
  obtain ⟨h1, h2, h3, h4, h5⟩ := h
  refine ⟨?_, fun c hc => ?_, ?_, ?_, ?_⟩ <;> rw [hs.2 _ _ (by unfold scr; omega)]
  · exact h1
  · exact h2 c hc
  · exact h3
  · exact h4
  · exact h5
theorem Rel.cw {D : DT} {M : AM} (h : Rel D M) : CW D (gR M 0 3) (gR M 39 (D 7 0)) M := ⟨h.2.2.2.1.1.2.2.1, fun c hc => (h.2.2.2.1.2.2.1 c hc).1, cst h (by decide), h.2.2.2.1.1.2.2.2.1, cst h (by decide)⟩
theorem spreadL84 {D : DT} {M0 M N : AM} {p r : Nat} (h : Rel D M0) (hp : p = 8 ∨ p = 23) (hr : 40 ≤ r ∧ r ≤ 80) (hW : CW D p r M) (hN : Sm M N) {s i Q : Nat} {g kf cb : Nat → Nat} {L : Nat → Option Nat} {R : Nat → Int32} {dn : Nat → Nat → Bool} (hB : BFI (gph D) s i 0 Q g kf cb L R dn) (hM : MBF N Q g kf cb L R) (hi : i < Q) : ∃ N' Q' g' kf' cb' L' R' dn', f_Paths_spread_l84 p r (nI i) fu 0 N = some ((), N') ∧ Sm M N' ∧ BFI (gph D) s (i + 1) 0 Q' g' kf' cb' L' R' dn' ∧ MBF N' Q' g' kf' cb' L' R' ∧ i + 1 ≤ Q' := by
  have hnc := h.1.2.1
  have h256l := p2_le h.1.1
  have htd := h.tied'
  have hle8 := h.1.2.2.2.1
  have hview : ∀ N, Sm M N → CW D p r N := fun N hN => hW.sm hp hr hN
  have hQ := hB.1.2.1
  have key : ∃ o, f_Paths_spread_l84 p r (nI i) fu 0 N = some o ∧ (∃ Q' g' kf' cb' L' R' dn', Sm M o.2 ∧ BFI (gph D) s i (D 0 1) Q' g' kf' cb' L' R' dn' ∧ MBF o.2 Q' g' kf' cb' L' R' ∧ i < Q') := by
    refine for_inv (fun z (t : Int32 × AM) => f_Paths_spread_l84 p r (nI i) z t.1 t.2) (fun c t => t.1 = nI c ∧ ∃ Q' g' kf' cb' L' R' dn', Sm M t.2 ∧ BFI (gph D) s i c Q' g' kf' cb' L' R' dn' ∧ MBF t.2 Q' g' kf' cb' L' R' ∧ i < Q') (D 0 1) _ (fun c t z hc hI => ?_) (fun t z hI => ?_) (D 0 1) 0 (0, N) fu (by omega) (by rw [fu_eq]; omega) ⟨rfl, Q, g, kf, cb, L, R, dn, hN, hB, hM, hi⟩
    · obtain ⟨v, K⟩ := t
      obtain ⟨rfl, Q', g', kf', cb', L', R', dn', i1, i2, i3, i4⟩ := hI
      simp only at i1 i3
      left
      obtain ⟨w5, w6, w3, w14, w2⟩ := hview K i1
      have hQ' := i2.1.2.1
      have hgi := (i2.2.1 i i4).1
      have htk := (h.1.2.2.2.2.2.2.2.1 c hc).1
      have hx : g' i ^^^ D 3 c < 256 := Nat.xor_lt_two_pow (n := 8) hgi (show D 3 c < 256 by omega)
      have l8 := pc_le (g' i ^^^ D 3 c)
      have hb : f_Paths_spread_l84 p r (nI i) (z + 1) (nI c) K = if (D (10 + D 7 0) 1).testBit c = true then f_Paths_spread_l84 p r (nI i) z (nI (c + 1)) K else if pc (g' i ^^^ D 3 c) < D 0 3 then f_Paths_spread_l84 p r (nI i) z (nI (c + 1)) K else bnd (f_Paths_come (nI (g' i)) (nI c) (nI (g' i ^^^ D 3 c)) K) (fun _ K2 => f_Paths_spread_l84 p r (nI i) z (nI (c + 1)) K2) := by
        show f_Paths_spread_b84 (f_Paths_spread_l84 p r (nI i) z) p r (nI i) (nI c) K = _
        unfold f_Paths_spread_b84
        rw [w5, if_neg (nI_ge hc (by omega)), ald_nI (by omega) (by decide), i3.2.1 i i4, ald_nI (by omega) (by decide), w6 c hc, w3, nx_bit (by omega) (by omega), tb_mod, nx_xor, bc_ok hx, bnd_s, w14, ald_nI (by omega) (by decide), i3.2.1 i i4, nI_1]
        by_cases ht : (D (10 + D 7 0) 1).testBit c = true
        · rw [if_pos ht, if_neg (by decide), if_pos ht]
        · rw [if_neg ht, if_pos nI_0, if_neg ht]
          by_cases hp : pc (g' i ^^^ D 3 c) < D 0 3
          · rw [if_pos (nI_lt hp (by omega)), if_pos hp]
          · rw [if_neg (nI_nlt (by omega) (by omega)), if_neg hp]
      by_cases ht : (D (10 + D 7 0) 1).testBit c = true
      · refine ⟨(nI (c + 1), K), ⟨rfl, Q', g', kf', cb', L', R', dn', i1, i2.skip i4 (fun q => ?_), i3, i4⟩, ?_⟩
        · have := q.1
          simp only [gph, ht] at this
          cases this
        · show f_Paths_spread_l84 p r (nI i) (z + 1) (nI c) K = _
          rw [hb, if_pos ht]
      · by_cases hp : pc (g' i ^^^ D 3 c) < D 0 3
        · refine ⟨(nI (c + 1), K), ⟨rfl, Q', g', kf', cb', L', R', dn', i1, i2.skip i4 (fun q => ?_), i3, i4⟩, ?_⟩
          · have q2 : decide (D 0 3 ≤ pc (g' i ^^^ D 3 c)) = true := q.2
            rw [decide_eq_true_iff] at q2
            omega
          · show f_Paths_spread_l84 p r (nI i) (z + 1) (nI c) K = _
            rw [hb, if_neg ht, if_pos hp]
        · obtain ⟨K', Q2, g2, kf2, cb2, L2, R2, dn2, e1, e2, e3, e4, e5, e6⟩ := come_ok i1 i2 i3 i4 (c := c) hc (show (!(D (10 + D 7 0) 1).testBit c) = true by simpa using ht) (show decide (D 0 3 ≤ pc (g' i ^^^ D 3 c)) = true by rw [decide_eq_true_iff]; omega) hx
          refine ⟨(nI (c + 1), K'), ⟨rfl, Q2, g2, kf2, cb2, L2, R2, dn2, e2, e3, e4, e5⟩, ?_⟩
          show f_Paths_spread_l84 p r (nI i) (z + 1) (nI c) K = _
          rw [hb, if_neg ht, if_neg hp]
          have e1' : f_Paths_come (nI (g' i)) (nI c) (nI (g' i ^^^ D 3 c)) K = some ((), K') := e1
          rw [e1', bnd_s]
    · obtain ⟨v, K⟩ := t
      obtain ⟨rfl, Q', g', kf', cb', L', R', dn', i1, i2, i3, i4⟩ := hI
      simp only at i1 i3
      obtain ⟨w5, w6, w3, w14, w2⟩ := hview K i1
      refine ⟨((), K), ?_, Q', g', kf', cb', L', R', dn', i1, i2, i3, i4⟩
      show f_Paths_spread_b84 (f_Paths_spread_l84 p r (nI i) z) p r (nI i) (nI (D 0 1)) K = _
      unfold f_Paths_spread_b84
      rw [w5, if_pos (nI_le (Nat.le_refl _) (by omega))]
  obtain ⟨⟨u, N'⟩, k1, Q', g', kf', cb', L', R', dn', k2, k3, k4, k5⟩ := key
  exact ⟨N', Q', g', kf', cb', L', R', dn', k1, k2, BFI.row (G := gph D) k3, k4, by omega⟩
/-- what the search leaves -/
def SPR (D : DT) (N : AM) (L : Nat → Option Nat) (R : Nat → Int32) (ps PF CB : Nat → Nat) : Prop :=
  FWD (gph D) (D (10 + D 7 0) 0) L R ∧ CAM (gph D) L ps PF CB ∧ (∀ v, v < 256 → gI N 93 v = lvI (L v)) ∧ (∀ v, v < 256 → gI N 97 v = R v) ∧ (∀ v n, L v = some (n + 1) → gI N 94 v = nI (PF v) ∧ gI N 95 v = nI (CB v)) ∧ (∀ v n, L v = some n → v < 256 ∧ n < 256) ∧ ∀ v, L v = none → R v = 0
theorem spread_ok {D : DT} {M0 M : AM} {p r : Nat} (h : Rel D M0) (hp : p = 8 ∨ p = 23) (hr : 40 ≤ r ∧ r ≤ 80) (hW : CW D p r M) : ∃ M' L R ps PF CB, f_Paths_spread p r M = some ((), M') ∧ Sm M M' ∧ SPR D M' L R ps PF CB := by
  have h256l := p2_le h.1.1
  have hnc := h.1.2.1
  have hpic := h.pic'
  obtain ⟨M2, a1, a2, a3⟩ := spreadI p r M
  have hL84 := fun (N : AM) (hN : Sm M N) => @spreadL84 D M0 M N p r h hp hr hW hN (D (10 + D 7 0) 0)
  have hr0 : gI M r 0 = nI (D (10 + D 7 0) 0) := hW.2.2.2.2
  generalize hs : D (10 + D 7 0) 0 = s at *
  have sm2 : Sm M M2 := ⟨a2, fun c k q => by rw [a3, if_neg (fun z => q (by rw [z.1]; exact scrP.1 k)), if_neg (fun z => q (by rw [z.1]; exact scrP.2.2.2.2.1 k))]⟩
  generalize hK : sI (sI (sI (sI M2 93 s 0) 97 s 1) 96 0 (nI s)) 92 4 1 = K
  have kI : ∀ a b, gI K a b = if a = 92 ∧ b = 4 then 1 else if a = 96 ∧ b = 0 then nI s else if a = 97 ∧ b = s then 1 else if a = 93 ∧ b = s then 0 else gI M2 a b := fun a b => by
    rw [← hK, gI_sI, gI_sI, gI_sI, gI_sI]
  have smK : Sm M K := by
    rw [← hK]
    exact (((sm2.sI (scrP.1 _)).sI (scrP.2.2.2.2.1 _)).sI (scrP.2.2.2.1 _)).sI scrP.2.2.2.2.2
  have hB0 : BFI (gph D) s 0 0 1 (fun _ => s) (fun _ => 0) (fun _ => 0) (fst (fun _ => none) s (some 0)) (fst (fun _ => 0) s 1) (fun _ _ => false) := by
    have hn : ∀ a b, ¬ lex2 a b 0 0 := fun a b q => by unfold lex2 at q; omega
    refine ⟨⟨by omega, by omega, rfl, fst_s _ _ _⟩, fun j hj => ⟨hpic, 0, fst_s _ _ _, by omega⟩, fun v n hv => ?_, fun j j' hj hj' _ => by omega, fun j a b => by omega, fun i' c _ q => absurd q (hn _ _), fun j j' a b d => by omega, fst_s _ _ _, fun v n hv => ?_, fun v hv => ?_, fun u c _ => ⟨fun q => by (cases q), fun q => by obtain ⟨-, -, i', -, -, q⟩ := q; exact absurd q (hn _ _)⟩⟩
    · by_cases e : v = s
      · exact ⟨0, by omega, e.symm⟩
      · rw [fst_n e] at hv; cases hv
    · by_cases e : v = s
      · rw [e, fst_s] at hv; cases hv
      · rw [fst_n e] at hv; cases hv
    · by_cases e : v = s
      · rw [e, fst_s] at hv; cases hv
      · rw [fst_n e]
  have hM0 : MBF K 1 (fun _ => s) (fun _ => 0) (fun _ => 0) (fst (fun _ => none) s (some 0)) (fst (fun _ => 0) s 1) := by
    refine ⟨by rw [kI, if_pos ⟨rfl, rfl⟩]; rfl, fun j hj => by rw [kI, if_neg (by omega), if_pos (by omega)], fun v hv => ?_, fun v hv => ?_, fun j a b => by omega⟩
    · rw [kI, if_neg (by omega), if_neg (by omega), if_neg (by omega)]
      by_cases e : v = s
      · rw [if_pos ⟨rfl, e⟩, e, fst_s]; rfl
      · rw [if_neg (fun z => e z.2), fst_n e, a3, if_pos ⟨rfl, hv⟩]; rfl
    · rw [kI, if_neg (by omega), if_neg (by omega)]
      by_cases e : v = s
      · rw [if_pos ⟨rfl, e⟩, e, fst_s]
      · rw [if_neg (fun z => e z.2), if_neg (by omega), fst_n e, a3, if_neg (by omega), if_pos ⟨rfl, hv⟩]
  have key : ∃ o, f_Paths_spread_l66 p r fu 0 K = some o ∧ (∃ Q g kf cb L R dn, Sm M o.2 ∧ BFI (gph D) s Q 0 Q g kf cb L R dn ∧ MBF o.2 Q g kf cb L R) := by
    refine for_inv (fun z (t : Int32 × AM) => f_Paths_spread_l66 p r z t.1 t.2) (fun i t => t.1 = nI i ∧ ∃ Q g kf cb L R dn, Sm M t.2 ∧ BFI (gph D) s i 0 Q g kf cb L R dn ∧ MBF t.2 Q g kf cb L R ∧ i ≤ Q) 256 _ (fun i t z hi hI => ?_) (fun t z hI => ?_) 256 0 (0, K) fu (by omega) (by rw [fu_eq]; omega) ⟨rfl, 1, _, _, _, _, _, _, smK, hB0, hM0, by omega⟩
    · obtain ⟨v, N⟩ := t
      obtain ⟨rfl, Q, g, kf, cb, L, R, dn, i1, i2, i3, i4⟩ := hI
      simp only at i1 i3
      have hQ := i2.1.2.1
      by_cases e : i < Q
      · left
        obtain ⟨N', Q', g', kf', cb', L', R', dn', k1, k2, k3, k4, k5⟩ := hL84 N i1 i2 i3 e
        refine ⟨(nI (i + 1), N'), ⟨rfl, Q', g', kf', cb', L', R', dn', k2, k3, k4, k5⟩, ?_⟩
        show f_Paths_spread_b66 (f_Paths_spread_l66 p r z) p r (nI i) N = _
        unfold f_Paths_spread_b66
        rw [i3.1, if_neg (nI_ge e (by omega)), nI_lit 256, if_neg (nI_ge hi (by decide)), k1, bnd_s, nI_1]
      · right
        have e2 : i = Q := by omega
        refine ⟨((), N), ?_, Q, g, kf, cb, L, R, dn, i1, by rw [← e2] at i2 ⊢; exact i2, i3⟩
        show f_Paths_spread_b66 (f_Paths_spread_l66 p r z) p r (nI i) N = _
        unfold f_Paths_spread_b66
        rw [i3.1, if_pos (nI_le (by omega) (by omega))]
    · obtain ⟨v, N⟩ := t
      obtain ⟨rfl, Q, g, kf, cb, L, R, dn, i1, i2, i3, i4⟩ := hI
      simp only at i1 i3
      have hQ := i2.1.2.1
      have e2 : Q = 256 := by omega
      refine ⟨((), N), ?_, Q, g, kf, cb, L, R, dn, i1, by rw [← e2] at i2; exact i2, i3⟩
      show f_Paths_spread_b66 (f_Paths_spread_l66 p r z) p r (nI 256) N = _
      unfold f_Paths_spread_b66
      rw [i3.1, e2, if_pos (nI_le (Nat.le_refl _) (by decide))]
  obtain ⟨⟨u, M'⟩, k1, Q, g, kf, cb, L, R, dn, k2, k3, k4⟩ := key
  simp only at k2 k4
  obtain ⟨d1, ps, d2, d3⟩ := k3.done
  refine ⟨M', L, R, ps, _, _, ?_, k2, by rw [hs]; exact d1, d2, k4.2.2.1, k4.2.2.2.1, fun v n hv => ?_, fun v n hv => k3.lvl hv, k3.2.2.2.2.2.2.2.2.2.1⟩
  · have r2 : gI M2 r 0 = nI s := by rw [a3, if_neg (by omega), if_neg (by omega)]; exact hr0
    have r3 : gI (sI M2 93 s 0) r 0 = nI s := by rw [gI_sI, if_neg (by omega)]; exact r2
    have r4 : gI (sI (sI M2 93 s 0) 97 s 1) r 0 = nI s := by rw [gI_sI, if_neg (by omega)]; exact r3
    unfold f_Paths_spread
    rw [a1, bnd_s, r2, ast_nI hpic (by decide), r3, ast_nI hpic (by decide), r4]
    show ast 256 _ 96 (nI 0) (nI s) _ = _
    rw [ast_nI (by decide) (by decide), wI_eq, hK, k1, bnd_s]
  · obtain ⟨p1, p2, p3⟩ := d3 v _ hv
    have := k4.2.2.2.2 (ps v) (p3 (by omega)) p1
    rw [p2] at this
    exact this
