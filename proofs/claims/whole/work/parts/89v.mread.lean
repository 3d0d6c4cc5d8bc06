/-! the reference reads: words, names, faults -/
def wM (c k : Nat) : Prop := (c = 105 ∧ (k = 2 ∨ k = 3 ∨ k = 4 ∨ k = 6 ∨ k = 7 ∨ k = 8 ∨ k = 17 ∨ k = 19 ∨ k = 20 ∨ k = 22 ∨ k = 23 ∨ k = 24 ∨ k = 35 ∨ k = 36 ∨ k = 37 ∨ k = 38 ∨ k = 39 ∨ k = 40 ∨ k = 47 ∨ k = 48 ∨ k = 49)) ∨ c = 108 ∨ c = 109 ∨ c = 112 ∨ c = 115 ∨ c = 116 ∨ c = 117 ∨ c = 118
def FR (N K : AM) : Prop := (∀ c k, gR K c k = gR N c k) ∧ ∀ c k, ¬ wM c k → gI K c k = gI N c k
theorem FR.rfl' {N : AM} : FR N N := ⟨fun _ _ => rfl, fun _ _ _ => rfl⟩
theorem FR.trans {N K J : AM} (h : FR N K) (h2 : FR K J) : FR N J := ⟨fun c k => (h2.1 c k).trans (h.1 c k), fun c k q => (h2.2 c k q).trans (h.2 c k q)⟩
theorem FR.sI {N K : AM} (h : FR N K) {c k : Nat} {v : Int32} (hc : wM c k) : FR N (sI K c k v) := ⟨h.1, fun a b q => by rw [gI_sI, if_neg (fun e => q (by rw [e.1, e.2]; exact hc))]; exact h.2 a b q⟩
theorem FR.sL {N K : AM} (h : FR N K) {c k : Nat} {v : Int64} : FR N (sL K c k v) := ⟨h.1, h.2⟩
theorem FM.fr {N K : AM} (h : FM N K) : FR N K := ⟨h.1, fun c k q => h.2.1 c k (fun e => q (by unfold wM; omega))⟩
def PM (E : DT) (N : AM) : Prop :=
  ((gI N 105 2 = 0 ∧ gI N 105 3 = -1) ∧ gI N 105 35 = nI (E 0 0) ∧ gI N 105 36 = nI (E 0 1) ∧ gI N 105 37 = nI (E 0 2) ∧ gI N 105 38 = nI (E 0 3) ∧ gI N 105 39 = nI (E 0 4) ∧ gI N 105 40 = nI (E 73 0) ∧ gI N 105 20 = nI (E 0 5) ∧ (E 72 3 = 1 → gI N 105 17 = nI (E 0 6)) ∧ gI N 105 24 = nI (E 72 3) ∧ gI N 105 47 = nI (E 72 4) ∧ gI N 105 48 = nI (E 72 5) ∧ gI N 105 49 = nI (E 72 6)) ∧
  (∀ l, l < E 0 0 → gL N 107 l = lN (E 70 l) ∧ gI N 115 l = nI (E 1 l) ∧ gI N 116 l = nI (E 2 l)) ∧
  (∀ c, c < E 0 1 → gL N 107 (8 + c) = lN (E 71 c) ∧ gI N 117 c = nI (E 3 c) ∧ gI N 118 c = nI (E 4 c)) ∧
  ∀ i, i < E 0 6 → gI N 108 i = nI (E 5 i) ∧ gI N 109 i = nI (E 6 i)
theorem PM.fm {E : DT} {N K : AM} (h : PM E N) (hf : FM N K) : PM E K := by
  have g : ∀ k, ¬ (k = 4 ∨ k = 6 ∨ k = 7 ∨ k = 8) → gI K 105 k = gI N 105 k := fun k q => hf.2.1 105 k (fun e => q e.2)
  have g' : ∀ c k, ¬ c = 105 → gI K c k = gI N c k := fun c k q => hf.2.1 c k (fun e => q e.1)
  have l : ∀ k, gL K 107 k = gL N 107 k := fun k => hf.2.2 107 k (by omega)
  obtain ⟨⟨a1, a2, a3, a4, a5, a6, a7, a8, a9, a10, a11, a12, a13⟩, b, d, e⟩ := h
  refine ⟨⟨⟨by rw [g 2 (by omega)]; exact a1.1, by rw [g 3 (by omega)]; exact a1.2⟩, by rw [g 35 (by omega)]; exact a2, by rw [g 36 (by omega)]; exact a3, by rw [g 37 (by omega)]; exact a4, by rw [g 38 (by omega)]; exact a5, by rw [g 39 (by omega)]; exact a6, by rw [g 40 (by omega)]; exact a7, by rw [g 20 (by omega)]; exact a8, fun q => by rw [g 17 (by omega)]; exact a9 q, by rw [g 24 (by omega)]; exact a10, by rw [g 47 (by omega)]; exact a11, by rw [g 48 (by omega)]; exact a12, by rw [g 49 (by omega)]; exact a13⟩, fun x hx => ?_, fun c hc => ?_, fun i hi => ?_⟩
  · rw [l, g' 115 x (by decide), g' 116 x (by decide)]; exact b x hx
  · rw [l, g' 117 c (by decide), g' 118 c (by decide)]; exact d c hc
  · rw [g' 108 i (by decide), g' 109 i (by decide)]; exact e i hi
theorem TM.fr {B : Nat → Nat} {z : Nat} {N K : AM} (h : TM B z N) (hf : FR N K) : TM B z K := ⟨by rw [hf.2 105 5 (by unfold wM; omega)]; exact h.1, fun i hi => by rw [hf.2 106 i (by unfold wM; omega)]; exact h.2 i hi⟩
/-- the reference stands at token i, with what is told -/
def MS (B : Nat → Nat) (z : Nat) (N : AM) (i : Nat) (E : DT) : Prop := MT (byt B z) N i ∧ TM B z N ∧ PM E N
def MO (B : Nat → Nat) (z : Nat) (N : AM) (r : RSL) (K : AM) : Prop := FR N K ∧ match r with
  | .inl (i, E) => MS B z K i E
  | .inr (k, pl) => gI K 105 2 = nI k ∧ gI K 105 3 = nI pl ∧ 1 ≤ k ∧ k ≤ 5
section MR
variable {B : Nat → Nat} {z : Nat} {N : AM} {E : DT} {i : Nat}
theorem MO.from {N0 K : AM} {r : RSL} (h : FR N0 N) (h2 : MO B z N r K) : MO B z N0 r K := ⟨h.trans h2.1, h2.2⟩
theorem MO.cases {r : RSL} {K : AM} (h : MO B z N r K) : (∃ j E', r = .inl (j, E') ∧ MS B z K j E' ∧ FR N K) ∨ (∃ q, r = .inr q ∧ ¬ gI K 105 2 = 0 ∧ ¬ gI K 105 2 ≤ 0 ∧ MO B z N (.inr q) K) := by
  obtain ⟨h1, h2⟩ := h
  match r, h2 with
  | .inl (j, E'), h2 => exact Or.inl ⟨j, E', rfl, h2, h1⟩
  | .inr (k, pl), ⟨a, b, c, d⟩ =>
    refine Or.inr ⟨(k, pl), rfl, fun q => ?_, fun q => ?_, h1, a, b, c, d⟩
    · rw [a] at q
      have := (nI_eq (b := 0) (by omega) (by decide)).mp q
      omega
    · rw [a] at q
      exact nI_ge (a := 0) (b := k) (by omega) (by omega) q
theorem srt_iff {k c : Nat} (hc : 4 ≤ c) (hc2 : c < 128) : srt k = c ↔ k = c := by
  unfold srt
  by_cases h0 : k = 0
  · rw [if_pos h0]; omega
  rw [if_neg h0]
  by_cases h1 : k = 1
  · rw [if_pos h1]; omega
  rw [if_neg h1]
  by_cases h3 : k = 3
  · rw [if_pos h3]; omega
  rw [if_neg h3]
  by_cases h2 : k = 2 ∨ 128 ≤ k
  · rw [if_pos h2]; omega
  rw [if_neg h2]
theorem srt_0 {k : Nat} : srt k = 0 ↔ k = 0 := by
  unfold srt
  by_cases h0 : k = 0
  · rw [if_pos h0]; omega
  rw [if_neg h0]
  by_cases h1 : k = 1
  · rw [if_pos h1]; omega
  rw [if_neg h1]
  by_cases h3 : k = 3
  · rw [if_pos h3]; omega
  rw [if_neg h3]
  by_cases h2 : k = 2 ∨ 128 ≤ k
  · rw [if_pos h2]; omega
  rw [if_neg h2]
theorem srt_1 {k : Nat} : srt k = 1 ↔ (k = 2 ∨ 128 ≤ k) := by
  unfold srt
  by_cases h0 : k = 0
  · rw [if_pos h0]; omega
  rw [if_neg h0]
  by_cases h1 : k = 1
  · rw [if_pos h1]; omega
  rw [if_neg h1]
  by_cases h3 : k = 3
  · rw [if_pos h3]; omega
  rw [if_neg h3]
  by_cases h2 : k = 2 ∨ 128 ≤ k
  · rw [if_pos h2]; omega
  rw [if_neg h2]
  omega
theorem srt_2 {k : Nat} (hk : ¬ k = 2) : srt k = 2 ↔ k = 3 := by
  unfold srt
  by_cases h0 : k = 0
  · rw [if_pos h0]; omega
  rw [if_neg h0]
  by_cases h1 : k = 1
  · rw [if_pos h1]; omega
  rw [if_neg h1]
  by_cases h3 : k = 3
  · rw [if_pos h3]; omega
  rw [if_neg h3]
  by_cases h2 : k = 2 ∨ 128 ≤ k
  · rw [if_pos h2]; omega
  rw [if_neg h2]
  omega
theorem srt_2' {k : Nat} : srt k = 2 ↔ k = 3 := by
  by_cases h : k = 2
  · subst h
    constructor
    · intro q; exact absurd q (by decide)
    · intro q; omega
  · exact srt_2 h
theorem srt_3 {k : Nat} : srt k = 3 ↔ k = 1 := by
  unfold srt
  by_cases h0 : k = 0
  · rw [if_pos h0]; omega
  rw [if_neg h0]
  by_cases h1 : k = 1
  · rw [if_pos h1]; omega
  rw [if_neg h1]
  by_cases h3 : k = 3
  · rw [if_pos h3]; omega
  rw [if_neg h3]
  by_cases h2 : k = 2 ∨ 128 ≤ k
  · rw [if_pos h2]; omega
  rw [if_neg h2]
  omega
theorem srt_lt {k : Nat} (h : k < 300) : srt k < 300 := by
  unfold srt
  split
  · omega
  · split
    · omega
    · split
      · omega
      · split <;> omega
theorem sI6 (hz : z ≤ 1600) (hB : ∀ i, i < z → B i < 256) (h : MT (byt B z) N i) (c : Nat) (hc : c < 300) : gI N 105 6 = (OfNat.ofNat c : Int32) ↔ srt (knd (byt B z) i) = c := by
  rw [h.2.1]
  exact nI_eq (by have := srt_lt (knd_lt hz hB i); omega) (by omega)
theorem mstep (hz : z ≤ 1600) (hB : ∀ i, i < z → B i < 256) (h : MS B z N i E) : ∃ K, f_Mo_token N = some ((), K) ∧ MS B z K (i + 1) E ∧ FM N K := by
  obtain ⟨K, k1, k2, k3⟩ := token_ok hz hB h.2.1 h.1.1
  exact ⟨K, k1, ⟨k2, h.2.1.fm k3, h.2.2.fm k3⟩, k3⟩
theorem wrong_ok (hz : z ≤ 1600) (hB : ∀ i, i < z → B i < 256) (h : MT (byt B z) N i) (h2 : gI N 105 2 = 0) {k : Nat} (hk1 : 1 ≤ k) (hk5 : k ≤ 5) : ∃ K, f_Mo_wrong (nI k) N = some ((), K) ∧ MO B z N (flt (byt B z) i k) K ∧ (∀ c j, ¬ (c = 105 ∧ (j = 2 ∨ j = 3)) → gI K c j = gI N c j) ∧ (∀ c j, gL K c j = gL N c j) := by
  refine ⟨sI (sI N 105 2 (nI (if knd (byt B z) i = 1 then 1 else k))) 105 3 (nI (plc (byt B z) i)), ?_, ⟨(FR.rfl'.sI (by unfold wM; omega)).sI (by unfold wM; omega), ?_, ?_, ?_, ?_⟩, ?_, fun _ _ => rfl⟩
  · unfold f_Mo_wrong f_Mo_wrong_j22
    have h7 : ∀ v, gI (sI N 105 2 v) 105 7 = nI (plc (byt B z) i) := fun v => by rw [gI_sI, if_neg (by omega)]; exact h.2.2.1
    rw [h2, if_pos (by decide)]
    simp only [wI_eq]
    rw [h7, h7]
    by_cases e : knd (byt B z) i = 1
    · rw [if_pos ((sI6 hz hB h 3 (by decide)).mpr (srt_3.mpr e)), if_pos e]; rfl
    · rw [if_neg (fun q => e (srt_3.mp ((sI6 hz hB h 3 (by decide)).mp q))), if_neg e]
  · rw [gI_sI, if_neg (by omega), gI_sI, if_pos ⟨rfl, rfl⟩]
  · rw [gI_sI, if_pos ⟨rfl, rfl⟩]
  · split <;> omega
  · split <;> omega
  · intro c j q
    rw [gI_sI, if_neg (by omega), gI_sI, if_neg (by omega)]
/-- the word that stands here -/
theorem isWord_ok (hz : z ≤ 1600) (hB : ∀ i, i < z → B i < 256) (h : MT (byt B z) N i) {k : Nat} (hk : k < 18) : f_Mo_isWord (lN (KW k)) N = some (if knd (byt B z) i = 128 + k then 1 else 0, N) := by
  unfold f_Mo_isWord
  by_cases e : knd (byt B z) i = 2 ∨ 128 ≤ knd (byt B z) i
  · rw [if_pos ((sI6 hz hB h 1 (by decide)).mpr (srt_1.mpr e)), h.2.2.2.2 e]
    obtain ⟨w1, w2⟩ := tkW_v hz e (knd_lt hz hB i)
    have kv : KW k < 2 ^ 63 := by
      have : ∀ k, k < 18 → KW k < 2 ^ 63 := by decide +kernel
      exact this k hk
    by_cases ek : knd (byt B z) i = 128 + k
    · have ew := (kwd_iff hk).mp (w2.symm.trans ek)
      rw [if_pos ek, ew, if_pos ((lg_cmp_eq _ _).mpr rfl)]
    · rw [if_neg ek, if_neg (fun q => ek (by rw [w2]; exact (kwd_iff hk).mpr (lN_in (vwd_lt w1).1 kv ((lg_cmp_eq _ _).mp q))))]
  · rw [if_neg (fun q => e (srt_1.mp ((sI6 hz hB h 1 (by decide)).mp q))), if_neg (by omega)]
theorem isOwn_ok (hz : z ≤ 1600) (hB : ∀ i, i < z → B i < 256) (h : MT (byt B z) N i) (e : knd (byt B z) i = 2 ∨ 128 ≤ knd (byt B z) i) : f_Mo_isOwn N = some (if knd (byt B z) i = 2 then 0 else 1, N) := by
  obtain ⟨w1, w2⟩ := tkW_v hz e (knd_lt hz hB i)
  have kv : ∀ k, k < 18 → KW k < 2 ^ 63 := by decide +kernel
  have ne : ∀ k, k < 18 → ¬ knd (byt B z) i = 128 + k → ¬ lg_cmp (gL N 105 9) (lN (KW k)) = 0 := fun k hk hn q => by
    rw [h.2.2.2.2 e] at q
    exact hn (by rw [w2]; exact (kwd_iff hk).mpr (lN_in (vwd_lt w1).1 (kv k hk) ((lg_cmp_eq _ _).mp q)))
  have ps : ∀ k, k < 18 → knd (byt B z) i = 128 + k → lg_cmp (gL N 105 9) (lN (KW k)) = 0 := fun k hk hn => by
    rw [h.2.2.2.2 e, (kwd_iff hk).mp (w2.symm.trans hn)]
    exact (lg_cmp_eq _ _).mpr rfl
  unfold f_Mo_isOwn f_Mo_isOwn_j198
  by_cases c0 : knd (byt B z) i = 128
  · rw [if_pos (show lg_cmp (gL N 105 9) 1818324336 = 0 from ps 0 (by decide) c0), if_neg (show ¬ knd (byt B z) i = 2 by omega)]
  rw [if_neg (show ¬ lg_cmp (gL N 105 9) 1818324336 = 0 from ne 0 (by decide) c0)]
  by_cases c12 : knd (byt B z) i = 140
  · rw [if_pos (show lg_cmp (gL N 105 9) 7104884 = 0 from ps 12 (by decide) c12), if_neg (show ¬ knd (byt B z) i = 2 by omega)]
  rw [if_neg (show ¬ lg_cmp (gL N 105 9) 7104884 = 0 from ne 12 (by decide) c12)]
  by_cases c16 : knd (byt B z) i = 144
  · rw [if_pos (show lg_cmp (gL N 105 9) 512736130163 = 0 from ps 16 (by decide) c16), if_neg (show ¬ knd (byt B z) i = 2 by omega)]
  rw [if_neg (show ¬ lg_cmp (gL N 105 9) 512736130163 = 0 from ne 16 (by decide) c16)]
  by_cases c1 : knd (byt B z) i = 129
  · rw [if_pos (show lg_cmp (gL N 105 9) 1668248164 = 0 from ps 1 (by decide) c1), if_neg (show ¬ knd (byt B z) i = 2 by omega)]
  rw [if_neg (show ¬ lg_cmp (gL N 105 9) 1668248164 = 0 from ne 1 (by decide) c1)]
  by_cases c7 : knd (byt B z) i = 135
  · rw [if_pos (show lg_cmp (gL N 105 9) 500186639987 = 0 from ps 7 (by decide) c7), if_neg (show ¬ knd (byt B z) i = 2 by omega)]
  rw [if_neg (show ¬ lg_cmp (gL N 105 9) 500186639987 = 0 from ne 7 (by decide) c7)]
  by_cases c8 : knd (byt B z) i = 136
  · rw [if_pos (show lg_cmp (gL N 105 9) 427071599731 = 0 from ps 8 (by decide) c8), if_neg (show ¬ knd (byt B z) i = 2 by omega)]
  rw [if_neg (show ¬ lg_cmp (gL N 105 9) 427071599731 = 0 from ne 8 (by decide) c8)]
  by_cases c2 : knd (byt B z) i = 130
  · rw [if_pos (show lg_cmp (gL N 105 9) 1852143732 = 0 from ps 2 (by decide) c2), if_neg (show ¬ knd (byt B z) i = 2 by omega)]
  rw [if_neg (show ¬ lg_cmp (gL N 105 9) 1852143732 = 0 from ne 2 (by decide) c2)]
  by_cases c3 : knd (byt B z) i = 131
  · rw [if_pos (show lg_cmp (gL N 105 9) 1685418859 = 0 from ps 3 (by decide) c3), if_neg (show ¬ knd (byt B z) i = 2 by omega)]
  rw [if_neg (show ¬ lg_cmp (gL N 105 9) 1685418859 = 0 from ne 3 (by decide) c3)]
  by_cases c4 : knd (byt B z) i = 132
  · rw [if_pos (show lg_cmp (gL N 105 9) 465557353332 = 0 from ps 4 (by decide) c4), if_neg (show ¬ knd (byt B z) i = 2 by omega)]
  rw [if_neg (show ¬ lg_cmp (gL N 105 9) 465557353332 = 0 from ne 4 (by decide) c4)]
  by_cases c5 : knd (byt B z) i = 133
  · rw [if_pos (show lg_cmp (gL N 105 9) 444352132211 = 0 from ps 5 (by decide) c5), if_neg (show ¬ knd (byt B z) i = 2 by omega)]
  rw [if_neg (show ¬ lg_cmp (gL N 105 9) 444352132211 = 0 from ne 5 (by decide) c5)]
  by_cases c6 : knd (byt B z) i = 134
  · rw [if_pos (show lg_cmp (gL N 105 9) 1685217655 = 0 from ps 6 (by decide) c6), if_neg (show ¬ knd (byt B z) i = 2 by omega)]
  rw [if_neg (show ¬ lg_cmp (gL N 105 9) 1685217655 = 0 from ne 6 (by decide) c6)]
  by_cases c13 : knd (byt B z) i = 141
  · rw [if_pos (show lg_cmp (gL N 105 9) 1852137842 = 0 from ps 13 (by decide) c13), if_neg (show ¬ knd (byt B z) i = 2 by omega)]
  rw [if_neg (show ¬ lg_cmp (gL N 105 9) 1852137842 = 0 from ne 13 (by decide) c13)]
  by_cases c14 : knd (byt B z) i = 142
  · rw [if_pos (show lg_cmp (gL N 105 9) 427071530099 = 0 from ps 14 (by decide) c14), if_neg (show ¬ knd (byt B z) i = 2 by omega)]
  rw [if_neg (show ¬ lg_cmp (gL N 105 9) 427071530099 = 0 from ne 14 (by decide) c14)]
  by_cases c15 : knd (byt B z) i = 143
  · rw [if_pos (show lg_cmp (gL N 105 9) 121450625394034 = 0 from ps 15 (by decide) c15), if_neg (show ¬ knd (byt B z) i = 2 by omega)]
  rw [if_neg (show ¬ lg_cmp (gL N 105 9) 121450625394034 = 0 from ne 15 (by decide) c15)]
  by_cases c17 : knd (byt B z) i = 145
  · rw [if_pos (show lg_cmp (gL N 105 9) 474214787188 = 0 from ps 17 (by decide) c17), if_neg (show ¬ knd (byt B z) i = 2 by omega)]
  rw [if_neg (show ¬ lg_cmp (gL N 105 9) 474214787188 = 0 from ne 17 (by decide) c17)]
  by_cases c10 : knd (byt B z) i = 138
  · rw [if_pos (show lg_cmp (gL N 105 9) 6385252 = 0 from ps 10 (by decide) c10), if_neg (show ¬ knd (byt B z) i = 2 by omega)]
  rw [if_neg (show ¬ lg_cmp (gL N 105 9) 6385252 = 0 from ne 10 (by decide) c10)]
  by_cases c9 : knd (byt B z) i = 137
  · rw [if_pos (show lg_cmp (gL N 105 9) 28530 = 0 from ps 9 (by decide) c9), if_neg (show ¬ knd (byt B z) i = 2 by omega)]
  rw [if_neg (show ¬ lg_cmp (gL N 105 9) 28530 = 0 from ne 9 (by decide) c9)]
  by_cases c11 : knd (byt B z) i = 139
  · rw [if_pos (show lg_cmp (gL N 105 9) 7237492 = 0 from ps 11 (by decide) c11), if_neg (show ¬ knd (byt B z) i = 2 by omega)]
  rw [if_neg (show ¬ lg_cmp (gL N 105 9) 7237492 = 0 from ne 11 (by decide) c11)]
  have e2 : knd (byt B z) i = 2 := by
    rcases kwd_cases (tkW (byt B z) (plc (byt B z) i)) with x | ⟨k, k1, x⟩
    · rw [w2]; exact x
    · rw [← w2] at x; omega
  rw [if_pos e2]
theorem isName_ok (hz : z ≤ 1600) (hB : ∀ i, i < z → B i < 256) (h : MT (byt B z) N i) : f_Mo_isName N = some (if knd (byt B z) i = 2 then 1 else 0, N) := by
  unfold f_Mo_isName
  by_cases e : knd (byt B z) i = 2 ∨ 128 ≤ knd (byt B z) i
  · rw [if_pos ((sI6 hz hB h 1 (by decide)).mpr (srt_1.mpr e)), isOwn_ok hz hB h e, bnd_s]
    by_cases e2 : knd (byt B z) i = 2
    · rw [if_pos e2, if_pos e2, if_pos rfl]
    · rw [if_neg e2, if_neg e2, if_neg (by decide)]
  · rw [if_neg (fun q => e (srt_1.mp ((sI6 hz hB h 1 (by decide)).mp q))), if_neg (by omega)]
/-- a name is looked for -/
theorem find_ok {g : Nat → Nat} {a n w : Nat} (ha : a + n ≤ 16) (hw : vwd w) (h9 : gL N 105 9 = lN w) (hg : ∀ k, k < n → gL N 107 (a + k) = lN (g k) ∧ vwd (g k)) : ∃ v, f_Mo_find (nI a) (nI n) N = some (v, N) ∧ ((v = -1 ∧ fdw g n w = none) ∨ ∃ l, l < n ∧ g l = w ∧ v = nI l) := by
  have key : ∃ o, f_Mo_find_l5 (nI a) (nI n) fu (-1) 0 N = some o ∧ (o.2 = N ∧ ((o.1 = -1 ∧ ∀ j, j < n → ¬ g j = w) ∨ ∃ l, l < n ∧ g l = w ∧ o.1 = nI l)) := by
    refine for_inv (fun y (s : Int32 × Int32 × AM) => f_Mo_find_l5 (nI a) (nI n) y s.1 s.2.1 s.2.2) (fun k s => s.2.1 = nI k ∧ s.2.2 = N ∧ ((s.1 = -1 ∧ ∀ j, j < k → ¬ g j = w) ∨ ∃ l, l < k ∧ g l = w ∧ s.1 = nI l)) n _ (fun k s y hk hI => ?_) (fun s y hI => ?_) n 0 (-1, 0, N) fu (by omega) (by rw [fu_eq]; omega) ⟨rfl, rfl, Or.inl ⟨rfl, fun j hj => by omega⟩⟩
    · obtain ⟨v3, v4, K⟩ := s
      obtain ⟨rfl, hK, i1⟩ := hI
      have hK' : N = K := hK.symm
      subst hK'
      left
      obtain ⟨g1, g2⟩ := hg k hk
      have un : f_Mo_find_l5 (nI a) (nI n) (y + 1) v3 (nI k) N = if lg_cmp (lN (g k)) (lN w) = 0 then f_Mo_find_l5 (nI a) (nI n) y (nI k) (nI (k + 1)) N else f_Mo_find_l5 (nI a) (nI n) y v3 (nI (k + 1)) N := by
        show f_Mo_find_b5 (f_Mo_find_l5 (nI a) (nI n) y) (nI a) (nI n) v3 (nI k) N = _
        unfold f_Mo_find_b5
        rw [if_neg (nI_ge hk (by omega)), nI_add, lald_nI (by omega) (by decide), g1, h9, nI_1]
      by_cases e : g k = w
      · refine ⟨(nI k, nI (k + 1), N), ⟨rfl, rfl, Or.inr ⟨k, by omega, e, rfl⟩⟩, ?_⟩
        show f_Mo_find_l5 (nI a) (nI n) (y + 1) v3 (nI k) N = _
        rw [un, if_pos ((lg_cmp_eq _ _).mpr (by rw [e]))]
      · refine ⟨(v3, nI (k + 1), N), ⟨rfl, rfl, ?_⟩, ?_⟩
        · rcases i1 with ⟨j1, j2⟩ | ⟨l, l1, l2, l3⟩
          · refine Or.inl ⟨j1, fun j hj => ?_⟩
            by_cases ej : j = k
            · rw [ej]; exact e
            · exact j2 j (by omega)
          · exact Or.inr ⟨l, by omega, l2, l3⟩
        · show f_Mo_find_l5 (nI a) (nI n) (y + 1) v3 (nI k) N = _
          rw [un, if_neg (fun q => e (lN_in (vwd_lt g2).1 (vwd_lt hw).1 ((lg_cmp_eq _ _).mp q)))]
    · obtain ⟨v3, v4, K⟩ := s
      obtain ⟨rfl, hK, i1⟩ := hI
      have hK' : N = K := hK.symm
      subst hK'
      refine ⟨(v3, N), ?_, rfl, i1⟩
      show f_Mo_find_b5 (f_Mo_find_l5 (nI a) (nI n) y) (nI a) (nI n) v3 (nI n) N = _
      unfold f_Mo_find_b5
      rw [if_pos (nI_le (Nat.le_refl _) (by omega))]
  obtain ⟨⟨v, K⟩, k1, hK, k3⟩ := key
  have hK' : N = K := hK.symm
  subst hK'
  unfold f_Mo_find
  refine ⟨v, by rw [k1, bnd_s], ?_⟩
  rcases k3 with ⟨j1, j2⟩ | x
  · left
    refine ⟨j1, ?_⟩
    cases hf : fdw g n w with
    | none => rfl
    | some l => obtain ⟨f1, f2⟩ := fdw_at hf; exact absurd f2 (j2 l f1)
  · exact Or.inr x
end MR
