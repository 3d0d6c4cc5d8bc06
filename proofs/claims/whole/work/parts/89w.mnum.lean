/-! numbers and names that the reference is told -/
/-- only the token and the fault have changed -/
def FM2 (N K : AM) : Prop := (∀ c k, gR K c k = gR N c k) ∧ ∀ c j, ¬ (c = 105 ∧ (j = 2 ∨ j = 3 ∨ j = 4 ∨ j = 6 ∨ j = 7 ∨ j = 8)) → gI K c j = gI N c j
theorem FM.f2 {N K : AM} (h : FM N K) : FM2 N K := ⟨h.1, fun c j q => h.2.1 c j (by omega)⟩
theorem FM2.trans {N K J : AM} (h : FM2 N K) (h2 : FM2 K J) : FM2 N J := ⟨fun c k => (h2.1 c k).trans (h.1 c k), fun c k q => (h2.2 c k q).trans (h.2 c k q)⟩
theorem FM2.fr {N K : AM} (h : FM2 N K) : FR N K := ⟨h.1, fun c k q => h.2 c k (fun e => q (by unfold wM; omega))⟩
theorem FM2.of {N K : AM} (h : FR N K) (h2 : ∀ c j, ¬ (c = 105 ∧ (j = 2 ∨ j = 3)) → gI K c j = gI N c j) : FM2 N K := ⟨h.1, fun c j q => h2 c j (by omega)⟩
section MN
variable {B : Nat → Nat} {z : Nat} {N : AM} {E : DT} {i : Nat}
theorem toldNumber_ok (hz : z ≤ 1600) (hB : ∀ i, i < z → B i < 256) (h : MS B z N i E) {most : Nat} (hm : most ≤ 999) : ∃ v K, f_Mo_toldNumber 0 (nI most) N = some (v, K) ∧ FM2 N K ∧ ((knd (byt B z) i = 3 ∧ tkD (byt B z) (plc (byt B z) i) ≤ most ∧ v = nI (tkD (byt B z) (plc (byt B z) i)) ∧ MS B z K (i + 1) E ∧ FM N K) ∨ ∀ ok, MO B z N (sNum (byt B z) most i ok) K ∧ sNum (byt B z) most i ok = sNum (byt B z) most i (fun _ => .inr (0, 0)) ∧ ∃ q, sNum (byt B z) most i ok = .inr q) := by
  have h2 : gI N 105 2 = 0 := h.2.2.1.1.1
  have stop : ∀ (K : AM) (r : RSL) (q : Nat × Nat), r = .inr q → MO B z N r K → f_Mo_toldNumber_j46 K = some (gI K 105 8, K) := fun K r q hq hK => by
    rw [hq] at hK
    rcases hK.cases with ⟨j, E', g1, -⟩ | ⟨q', g1, g2, g3, g4⟩
    · cases g1
    · unfold f_Mo_toldNumber_j46
      rw [if_neg g2]
  unfold f_Mo_toldNumber
  rw [h2, if_pos (by decide)]
  by_cases e : knd (byt B z) i = 3
  · have hd := tkD_lt hz e
    rw [if_pos ((sI6 hz hB h.1 2 (by decide)).mpr (srt_2'.mpr e)), h.1.2.2.2.1 e, if_neg (nI_lt0 (by omega))]
    by_cases em : tkD (byt B z) (plc (byt B z) i) ≤ most
    · rw [if_pos (nI_le em (by omega))]
      obtain ⟨K, k1, k2, k3⟩ := mstep hz hB h
      unfold f_Mo_toldNumber_j46
      rw [h2, if_pos rfl, k1, bnd_s, h.1.2.2.2.1 e]
      exact ⟨_, K, rfl, k3.f2, Or.inl ⟨e, em, rfl, k2, k3⟩⟩
    · rw [if_neg (nI_ge (by omega) (by omega))]
      obtain ⟨K, k1, k2, k3, k4⟩ := wrong_ok hz hB h.1 h2 (k := 4) (by decide) (by decide)
      have sp : ∀ ok, sNum (byt B z) most i ok = flt (byt B z) i 4 := fun ok => by unfold sNum; rw [if_pos e, if_neg em]
      unfold f_Mo_toldNumber_j41
      have k1' : f_Mo_wrong 4 N = some ((), K) := k1
      rw [k1', bnd_s, stop K _ _ rfl k2]
      exact ⟨_, K, rfl, FM2.of k2.1 k3, Or.inr (fun ok => by rw [sp, sp]; exact ⟨k2, rfl, _, rfl⟩)⟩
  · rw [if_neg (fun q => e (srt_2'.mp ((sI6 hz hB h.1 2 (by decide)).mp q)))]
    obtain ⟨K, k1, k2, k3, k4⟩ := wrong_ok hz hB h.1 h2 (k := 2) (by decide) (by decide)
    have sp : ∀ ok, sNum (byt B z) most i ok = flt (byt B z) i 2 := fun ok => by unfold sNum; rw [if_neg e]
    have k1' : f_Mo_wrong 2 N = some ((), K) := k1
    rw [k1', bnd_s, stop K _ _ rfl k2]
    exact ⟨_, K, rfl, FM2.of k2.1 k3, Or.inr (fun ok => by rw [sp, sp]; exact ⟨k2, rfl, _, rfl⟩)⟩
theorem want_ok (hz : z ≤ 1600) (hB : ∀ i, i < z → B i < 256) (h : MS B z N i E) {k : Nat} (hk : k < 18) : ∃ K, f_Mo_want (lN (KW k)) N = some ((), K) ∧ MO B z N (sExp (byt B z) (128 + k) i E) K ∧ (knd (byt B z) i = 128 + k → MS B z K (i + 1) E ∧ FM N K) ∧ (∀ c j, ¬ (c = 105 ∧ (j = 2 ∨ j = 3 ∨ j = 4 ∨ j = 6 ∨ j = 7 ∨ j = 8)) → gI K c j = gI N c j) ∧ (∀ c j, ¬ (c = 105 ∧ j = 9) → gL K c j = gL N c j) := by
  have h2 : gI N 105 2 = 0 := h.2.2.1.1.1
  unfold f_Mo_want sExp
  rw [h2, if_pos (by decide), isWord_ok hz hB h.1 hk, bnd_s]
  by_cases e : knd (byt B z) i = 128 + k
  · rw [if_pos e, if_neg (by decide), if_pos e]
    obtain ⟨K, k1, k2, k3⟩ := mstep hz hB h
    rw [k1, bnd_s]
    exact ⟨K, rfl, ⟨k3.fr, k2⟩, fun _ => ⟨k2, k3⟩, fun c j q => k3.2.1 c j (by omega), fun c j q => k3.2.2 c j q⟩
  · rw [if_neg e, if_pos rfl, if_neg e]
    obtain ⟨K, k1, k2, k3, k4⟩ := wrong_ok hz hB h.1 h2 (k := 2) (by decide) (by decide)
    have k1' : f_Mo_wrong 2 N = some ((), K) := k1
    rw [k1', bnd_s]
    exact ⟨K, rfl, k2, fun q => absurd q e, fun c j q => k3 c j (by omega), fun c j q => k4 c j⟩
theorem told_ok (hz : z ≤ 1600) (hB : ∀ i, i < z → B i < 256) (h : MS B z N i E) {k most : Nat} (hk : k < 18) (hm : most ≤ 999) (e : knd (byt B z) i = 128 + k) : ∃ v K, f_Mo_told (lN (KW k)) 0 (nI most) N = some (v, K) ∧ FM2 N K ∧ ((knd (byt B z) (i + 1) = 3 ∧ tkD (byt B z) (plc (byt B z) (i + 1)) ≤ most ∧ v = nI (tkD (byt B z) (plc (byt B z) (i + 1))) ∧ MS B z K (i + 2) E ∧ FM N K) ∨ ∀ ok, MO B z N (sNum (byt B z) most (i + 1) ok) K ∧ sNum (byt B z) most (i + 1) ok = sNum (byt B z) most (i + 1) (fun _ => .inr (0, 0)) ∧ ∃ q, sNum (byt B z) most (i + 1) ok = .inr q) := by
  obtain ⟨K1, k1, -, k3, -⟩ := want_ok hz hB h hk
  obtain ⟨s1, s2⟩ := k3 e
  obtain ⟨v, K2, t1, t0, t2⟩ := toldNumber_ok hz hB s1 hm
  unfold f_Mo_told
  rw [k1, bnd_s, t1, bnd_s]
  refine ⟨v, K2, rfl, s2.f2.trans t0, ?_⟩
  rcases t2 with ⟨a1, a2, a3, a4, a5⟩ | x
  · exact Or.inl ⟨a1, a2, a3, a4, s2.trans a5⟩
  · exact Or.inr (fun ok => ⟨(x ok).1.from s2.fr, (x ok).2⟩)
/-- a number that may be told -/
def sMay (f : Nat → Nat) (k most i : Nat) (ok : Nat → Nat → RSL) : RSL := if knd f i = 128 + k then sNum f most (i + 1) (fun v => ok (i + 2) v) else ok i 1
theorem mayTell_ok (hz : z ≤ 1600) (hB : ∀ i, i < z → B i < 256) (h : MS B z N i E) {k most : Nat} (hk : k < 18) (hm : most ≤ 999) : ∃ v K, f_Mo_mayTell (lN (KW k)) (nI most) N = some (v, K) ∧ FM2 N K ∧ ((∃ j d, (∀ ok, sMay (byt B z) k most i ok = ok j d) ∧ v = nI d ∧ MS B z K j E ∧ FM N K) ∨ ∃ q, (∀ ok, sMay (byt B z) k most i ok = .inr q) ∧ MO B z N (.inr q) K) := by
  have h2 : gI N 105 2 = 0 := h.2.2.1.1.1
  unfold f_Mo_mayTell sMay
  rw [h2, if_pos rfl, isWord_ok hz hB h.1 hk, bnd_s]
  by_cases e : knd (byt B z) i = 128 + k
  · obtain ⟨v, K, t1, t0, t2⟩ := told_ok hz hB h hk hm e
    rw [if_pos e, if_neg (by decide), t1, bnd_s]
    rcases t2 with ⟨a1, a2, a3, a4, a5⟩ | x
    · refine ⟨v, K, rfl, t0, Or.inl ⟨i + 2, _, fun ok => ?_, a3, a4, a5⟩⟩
      rw [if_pos e]
      unfold sNum
      rw [if_pos a1, if_pos a2]
    · obtain ⟨q, hq⟩ := (x (fun _ => .inr (0, 0))).2.2
      refine ⟨v, K, rfl, t0, Or.inr ⟨q, fun ok => ?_, ?_⟩⟩
      · rw [if_pos e, (x _).2.1, hq]
      · rw [← hq]; exact (x _).1
  · rw [if_neg e, if_pos rfl]
    exact ⟨1, N, rfl, FM.rfl'.f2, Or.inl ⟨i, 1, fun ok => by rw [if_neg e], rfl, h, FM.rfl'⟩⟩
theorem PM.nm {K : AM} {s : Nat} {w : Int64} (h : PM E N) (hO : okN E) (hs : (s = E 0 0 ∧ E 0 0 < 8) ∨ s = 8 + E 0 1) : PM E (sL N 107 s w) := by
  obtain ⟨a, b, d, e⟩ := h
  have h00 := hO.1.1
  refine ⟨a, fun l hl => ⟨?_, (b l hl).2⟩, fun c hc => ⟨?_, (d c hc).2⟩, e⟩
  · rw [gL_sL, if_neg (by omega)]; exact (b l hl).1
  · rw [gL_sL, if_neg (by omega)]; exact (d c hc).1
theorem newName_ok (hz : z ≤ 1600) (hB : ∀ i, i < z → B i < 256) (h : MS B z N i E) (hO : okN E) {a n : Nat} {g : Nat → Nat} (hs : (a = 0 ∧ n = E 0 0 ∧ g = E 70) ∨ (a = 8 ∧ n = E 0 1 ∧ g = E 71)) (hn : n < 8) : ∃ K, f_Mo_newName (nI a) (nI n) N = some ((), K) ∧ FR N K ∧ ((knd (byt B z) (i + 1) = 2 ∧ fdw g n (wdf (byt B z) (i + 1)) = none ∧ MS B z K (i + 2) E ∧ gL K 107 (a + n) = lN (wdf (byt B z) (i + 1))) ∨ (¬ knd (byt B z) (i + 1) = 2 ∧ MO B z N (flt (byt B z) (i + 1) 2) K) ∨ (knd (byt B z) (i + 1) = 2 ∧ (fdw g n (wdf (byt B z) (i + 1))).isSome = true ∧ MO B z N (flt (byt B z) (i + 1) 3) K)) := by
  obtain ⟨K1, s1, s2, s3⟩ := mstep hz hB h
  have h2 : gI K1 105 2 = 0 := s2.2.2.1.1.1
  unfold f_Mo_newName f_Mo_newName_j33
  rw [s1, bnd_s, isName_ok hz hB s2.1, bnd_s]
  by_cases e : knd (byt B z) (i + 1) = 2
  · rw [if_pos e, if_neg (by decide)]
    obtain ⟨w1, w2⟩ := tkW_v hz (Or.inl e) (knd_lt hz hB (i + 1))
    have h9 := s2.1.2.2.2.2 (Or.inl e)
    have hg : ∀ k, k < n → gL K1 107 (a + k) = lN (g k) ∧ vwd (g k) := fun k hk => by
      rcases hs with ⟨rfl, rfl, rfl⟩ | ⟨rfl, rfl, rfl⟩
      · rw [Nat.zero_add]; exact ⟨(s2.2.2.2.1 k hk).1, (hO.2.1 k hk).1⟩
      · exact ⟨(s2.2.2.2.2.1 k hk).1, (hO.2.2.1 k hk).1⟩
    obtain ⟨v, f1, f2⟩ := find_ok (N := K1) (g := g) (a := a) (n := n) (by omega) w1 h9 hg
    rw [f1, bnd_s]
    rcases f2 with ⟨rfl, f3⟩ | ⟨l, l1, l2, rfl⟩
    · rw [if_pos (by decide), h2, if_pos (by decide), nI_add, last_nI (by omega) (by decide), h9]
      have hm : MS B z (sL K1 107 (a + n) (lN (tkW (byt B z) (plc (byt B z) (i + 1))))) (i + 1) E := by
        refine ⟨⟨s2.1.1, s2.1.2.1, s2.1.2.2.1, s2.1.2.2.2.1, fun q => ?_⟩, s2.2.1, s2.2.2.nm (K := K1) hO (by omega)⟩
        rw [gL_sL, if_neg (by omega)]; exact s2.1.2.2.2.2 q
      obtain ⟨K2, t1, t2, t3⟩ := mstep hz hB hm
      rw [t1, bnd_s]
      refine ⟨K2, rfl, (s3.fr.sL).trans t3.fr, Or.inl ⟨e, f3, t2, ?_⟩⟩
      rw [t3.2.2 107 (a + n) (by omega), gL_sL, if_pos ⟨rfl, rfl⟩]; rfl
    · rw [if_neg (nI_lt0 (by omega))]
      obtain ⟨K, k1, k2, k3, k4⟩ := wrong_ok hz hB s2.1 h2 (k := 3) (by decide) (by decide)
      have k1' : f_Mo_wrong 3 K1 = some ((), K) := k1
      rw [k1', bnd_s]
      rcases k2.cases with ⟨j, E', g1, -⟩ | ⟨q', g1, g2, g3, g4⟩
      · cases g1
      · rw [if_neg g3]
        refine ⟨K, rfl, s3.fr.trans k2.1, Or.inr (Or.inr ⟨e, ?_, k2.from s3.fr⟩)⟩
        cases hf : fdw g n (wdf (byt B z) (i + 1)) with
        | some x => rfl
        | none => exact absurd l2 (fdw_no hf l l1)
  · rw [if_neg e, if_pos rfl]
    obtain ⟨K, k1, k2, k3, k4⟩ := wrong_ok hz hB s2.1 h2 (k := 2) (by decide) (by decide)
    have k1' : f_Mo_wrong 2 K1 = some ((), K) := k1
    rw [k1', bnd_s]
    rcases k2.cases with ⟨j, E', g1, -⟩ | ⟨q', g1, g2, g3, g4⟩
    · cases g1
    · rw [if_neg g3]
      exact ⟨K, rfl, s3.fr.trans k2.1, Or.inr (Or.inl ⟨e, k2.from s3.fr⟩)⟩
theorem oldLamp_ok (hz : z ≤ 1600) (hB : ∀ i, i < z → B i < 256) (h : MS B z N i E) (hO : okN E) : ∃ v K, f_Mo_oldLamp N = some (v, K) ∧ ((∃ l, l < E 0 0 ∧ v = nI l ∧ K = N ∧ ∀ ok, sOld (byt B z) i E ok = ok l) ∨ (v = 0 ∧ ∃ q, (∀ ok, sOld (byt B z) i E ok = .inr q) ∧ MO B z N (.inr q) K ∧ (∀ c j, ¬ (c = 105 ∧ (j = 2 ∨ j = 3)) → gI K c j = gI N c j))) := by
  have h2 : gI N 105 2 = 0 := h.2.2.1.1.1
  have h00 := hO.1.1
  unfold f_Mo_oldLamp f_Mo_oldLamp_j41
  rw [h2, if_pos (by decide), isName_ok hz hB h.1, bnd_s]
  by_cases e : knd (byt B z) i = 2
  · obtain ⟨w1, w2⟩ := tkW_v hz (Or.inl e) (knd_lt hz hB i)
    have h9 := h.1.2.2.2.2 (Or.inl e)
    obtain ⟨v, f1, f2⟩ := find_ok (N := N) (g := E 70) (a := 0) (n := E 0 0) (by omega) w1 h9 (fun k hk => by rw [Nat.zero_add]; exact ⟨(h.2.2.2.1 k hk).1, (hO.2.1 k hk).1⟩)
    have f1' : f_Mo_find 0 (nI (E 0 0)) N = some (v, N) := f1
    rw [if_pos e, if_neg (by decide), h.2.2.1.2.1, f1', bnd_s]
    rcases f2 with ⟨rfl, f3⟩ | ⟨l, l1, l2, rfl⟩
    · rw [if_neg (by decide)]
      obtain ⟨K, k1, k2, k3, k4⟩ := wrong_ok hz hB h.1 h2 (k := 5) (by decide) (by decide)
      have k1' : f_Mo_wrong 5 N = some ((), K) := k1
      rw [k1', bnd_s]
      rcases k2.cases with ⟨j, E', g1, -⟩ | ⟨q', g1, g2, g3, g4⟩
      · cases g1
      · rw [if_neg g3]
        exact ⟨0, K, rfl, Or.inr ⟨rfl, q', fun ok => by rw [sOld_n e f3]; exact g1, g4, k3⟩⟩
    · rw [if_pos (show (0 : Int32) ≤ nI l from nI_le (a := 0) (Nat.zero_le _) (by omega)), h2, if_pos (by decide), h.2.2.1.2.1, f1', bnd_s]
      refine ⟨nI l, N, rfl, Or.inl ⟨l, l1, rfl, rfl, fun ok => ?_⟩⟩
      cases hf : fdw (E 70) (E 0 0) (wdf (byt B z) i) with
      | none => exact absurd l2 (fdw_no hf l l1)
      | some l' =>
        obtain ⟨x1, x2⟩ := fdw_at hf
        rw [sOld_s e hf, (hO.2.1 l l1).2.2.2.2 l' x1 (by rw [l2, x2]; rfl)]
  · rw [if_neg e, if_pos rfl]
    obtain ⟨K, k1, k2, k3, k4⟩ := wrong_ok hz hB h.1 h2 (k := 2) (by decide) (by decide)
    have k1' : f_Mo_wrong 2 N = some ((), K) := k1
    rw [k1', bnd_s]
    rcases k2.cases with ⟨j, E', g1, -⟩ | ⟨q', g1, g2, g3, g4⟩
    · cases g1
    · rw [if_neg g3]
      exact ⟨0, K, rfl, Or.inr ⟨rfl, q', fun ok => by rw [sOld_x e]; exact g1, g4, k3⟩⟩
end MN
