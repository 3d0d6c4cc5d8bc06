/-! all lines: the reference -/
section MA
variable {B : Nat → Nat} {z : Nat} {N : AM} {E : DT} {i : Nat}
theorem PM.o4 (h : PM E N) : PM (st E 72 4 1) (sI N 105 47 1) := by
  obtain ⟨⟨a1, a2, a3, a4, a5, a6, a7, a8, a9, a10, a11, a12, a13⟩, b, d, e⟩ := h
  have g : ∀ c k, ¬ (c = 105 ∧ k = 47) → gI (sI N 105 47 1) c k = gI N c k := fun c k q => by rw [gI_sI, if_neg q]
  exact ⟨⟨⟨by rw [g _ _ (by omega)]; exact a1.1, by rw [g _ _ (by omega)]; exact a1.2⟩, by rw [g _ _ (by omega)]; exact a2, by rw [g _ _ (by omega)]; exact a3, by rw [g _ _ (by omega)]; exact a4, by rw [g _ _ (by omega)]; exact a5, by rw [g _ _ (by omega)]; exact a6, by rw [g _ _ (by omega)]; exact a7, by rw [g _ _ (by omega)]; exact a8, fun q => by rw [g _ _ (by omega)]; exact a9 q, by rw [g _ _ (by omega)]; exact a10, by rw [gI_sI, if_pos ⟨rfl, rfl⟩]; rfl, by rw [g _ _ (by omega)]; exact a12, by rw [g _ _ (by omega)]; exact a13⟩, fun l hl => by rw [g 115 l (by omega), g 116 l (by omega)]; exact b l hl, fun c hc => by rw [g 117 c (by omega), g 118 c (by omega)]; exact d c hc, fun j hj => by rw [g 108 j (by omega), g 109 j (by omega)]; exact e j hj⟩
theorem PM.o5 (h : PM E N) : PM (st E 72 5 1) (sI N 105 48 1) := by
  obtain ⟨⟨a1, a2, a3, a4, a5, a6, a7, a8, a9, a10, a11, a12, a13⟩, b, d, e⟩ := h
  have g : ∀ c k, ¬ (c = 105 ∧ k = 48) → gI (sI N 105 48 1) c k = gI N c k := fun c k q => by rw [gI_sI, if_neg q]
  exact ⟨⟨⟨by rw [g _ _ (by omega)]; exact a1.1, by rw [g _ _ (by omega)]; exact a1.2⟩, by rw [g _ _ (by omega)]; exact a2, by rw [g _ _ (by omega)]; exact a3, by rw [g _ _ (by omega)]; exact a4, by rw [g _ _ (by omega)]; exact a5, by rw [g _ _ (by omega)]; exact a6, by rw [g _ _ (by omega)]; exact a7, by rw [g _ _ (by omega)]; exact a8, fun q => by rw [g _ _ (by omega)]; exact a9 q, by rw [g _ _ (by omega)]; exact a10, by rw [g _ _ (by omega)]; exact a11, by rw [gI_sI, if_pos ⟨rfl, rfl⟩]; rfl, by rw [g _ _ (by omega)]; exact a13⟩, fun l hl => by rw [g 115 l (by omega), g 116 l (by omega)]; exact b l hl, fun c hc => by rw [g 117 c (by omega), g 118 c (by omega)]; exact d c hc, fun j hj => by rw [g 108 j (by omega), g 109 j (by omega)]; exact e j hj⟩
theorem PM.o6 (h : PM E N) : PM (st E 72 6 1) (sI N 105 49 1) := by
  obtain ⟨⟨a1, a2, a3, a4, a5, a6, a7, a8, a9, a10, a11, a12, a13⟩, b, d, e⟩ := h
  have g : ∀ c k, ¬ (c = 105 ∧ k = 49) → gI (sI N 105 49 1) c k = gI N c k := fun c k q => by rw [gI_sI, if_neg q]
  exact ⟨⟨⟨by rw [g _ _ (by omega)]; exact a1.1, by rw [g _ _ (by omega)]; exact a1.2⟩, by rw [g _ _ (by omega)]; exact a2, by rw [g _ _ (by omega)]; exact a3, by rw [g _ _ (by omega)]; exact a4, by rw [g _ _ (by omega)]; exact a5, by rw [g _ _ (by omega)]; exact a6, by rw [g _ _ (by omega)]; exact a7, by rw [g _ _ (by omega)]; exact a8, fun q => by rw [g _ _ (by omega)]; exact a9 q, by rw [g _ _ (by omega)]; exact a10, by rw [g _ _ (by omega)]; exact a11, by rw [g _ _ (by omega)]; exact a12, by rw [gI_sI, if_pos ⟨rfl, rfl⟩]; rfl⟩, fun l hl => by rw [g 115 l (by omega), g 116 l (by omega)]; exact b l hl, fun c hc => by rw [g 117 c (by omega), g 118 c (by omega)]; exact d c hc, fun j hj => by rw [g 108 j (by omega), g 109 j (by omega)]; exact e j hj⟩
theorem PM.lst {v : Nat} (h : PM E N) : PM (st E 0 3 v) (sI N 105 38 (nI v)) := by
  obtain ⟨⟨a1, a2, a3, a4, a5, a6, a7, a8, a9, a10, a11, a12, a13⟩, b, d, e⟩ := h
  have g : ∀ c k, ¬ (c = 105 ∧ k = 38) → gI (sI N 105 38 (nI v)) c k = gI N c k := fun c k q => by rw [gI_sI, if_neg q]
  exact ⟨⟨⟨by rw [g _ _ (by omega)]; exact a1.1, by rw [g _ _ (by omega)]; exact a1.2⟩, by rw [g _ _ (by omega)]; exact a2, by rw [g _ _ (by omega)]; exact a3, by rw [g _ _ (by omega)]; exact a4, by rw [gI_sI, if_pos ⟨rfl, rfl⟩]; rfl, by rw [g _ _ (by omega)]; exact a6, by rw [g _ _ (by omega)]; exact a7, by rw [g _ _ (by omega)]; exact a8, fun q => by rw [g _ _ (by omega)]; exact a9 q, by rw [g _ _ (by omega)]; exact a10, by rw [g _ _ (by omega)]; exact a11, by rw [g _ _ (by omega)]; exact a12, by rw [g _ _ (by omega)]; exact a13⟩, fun l hl => by rw [g 115 l (by omega), g 116 l (by omega)]; exact b l hl, fun c hc => by rw [g 117 c (by omega), g 118 c (by omega)]; exact d c hc, fun j hj => by rw [g 108 j (by omega), g 109 j (by omega)]; exact e j hj⟩
theorem PM.gst {v : Nat} (h : PM E N) : PM (st E 0 4 v) (sI N 105 39 (nI v)) := by
  obtain ⟨⟨a1, a2, a3, a4, a5, a6, a7, a8, a9, a10, a11, a12, a13⟩, b, d, e⟩ := h
  have g : ∀ c k, ¬ (c = 105 ∧ k = 39) → gI (sI N 105 39 (nI v)) c k = gI N c k := fun c k q => by rw [gI_sI, if_neg q]
  exact ⟨⟨⟨by rw [g _ _ (by omega)]; exact a1.1, by rw [g _ _ (by omega)]; exact a1.2⟩, by rw [g _ _ (by omega)]; exact a2, by rw [g _ _ (by omega)]; exact a3, by rw [g _ _ (by omega)]; exact a4, by rw [g _ _ (by omega)]; exact a5, by rw [gI_sI, if_pos ⟨rfl, rfl⟩]; rfl, by rw [g _ _ (by omega)]; exact a7, by rw [g _ _ (by omega)]; exact a8, fun q => by rw [g _ _ (by omega)]; exact a9 q, by rw [g _ _ (by omega)]; exact a10, by rw [g _ _ (by omega)]; exact a11, by rw [g _ _ (by omega)]; exact a12, by rw [g _ _ (by omega)]; exact a13⟩, fun l hl => by rw [g 115 l (by omega), g 116 l (by omega)]; exact b l hl, fun c hc => by rw [g 117 c (by omega), g 118 c (by omega)]; exact d c hc, fun j hj => by rw [g 108 j (by omega), g 109 j (by omega)]; exact e j hj⟩
theorem PM.drw {v : Nat} (h : PM E N) : PM (st E 73 0 v) (sI N 105 40 (nI v)) := by
  obtain ⟨⟨a1, a2, a3, a4, a5, a6, a7, a8, a9, a10, a11, a12, a13⟩, b, d, e⟩ := h
  have g : ∀ c k, ¬ (c = 105 ∧ k = 40) → gI (sI N 105 40 (nI v)) c k = gI N c k := fun c k q => by rw [gI_sI, if_neg q]
  exact ⟨⟨⟨by rw [g _ _ (by omega)]; exact a1.1, by rw [g _ _ (by omega)]; exact a1.2⟩, by rw [g _ _ (by omega)]; exact a2, by rw [g _ _ (by omega)]; exact a3, by rw [g _ _ (by omega)]; exact a4, by rw [g _ _ (by omega)]; exact a5, by rw [g _ _ (by omega)]; exact a6, by rw [gI_sI, if_pos ⟨rfl, rfl⟩]; rfl, by rw [g _ _ (by omega)]; exact a8, fun q => by rw [g _ _ (by omega)]; exact a9 q, by rw [g _ _ (by omega)]; exact a10, by rw [g _ _ (by omega)]; exact a11, by rw [g _ _ (by omega)]; exact a12, by rw [g _ _ (by omega)]; exact a13⟩, fun l hl => by rw [g 115 l (by omega), g 116 l (by omega)]; exact b l hl, fun c hc => by rw [g 117 c (by omega), g 118 c (by omega)]; exact d c hc, fun j hj => by rw [g 108 j (by omega), g 109 j (by omega)]; exact e j hj⟩
theorem MS.sI' {K : AM} {k : Nat} {v : Int32} {E' : DT} (h : MS B z N i E) (hk : wM 105 k) (hk2 : ¬ (k = 4 ∨ k = 6 ∨ k = 7 ∨ k = 8)) (hP : PM E' (sI N 105 k v)) : MS B z (sI N 105 k v) i E' :=
  ⟨h.1.kp (fun a ha => by rw [gI_sI, if_neg (by omega)]) rfl, h.2.1.fr (FR.rfl'.sI hk), hP⟩
/-- a number's line -/
theorem mnum_ok (hz : z ≤ 1600) (hB : ∀ i, i < z → B i < 256) (h : MS B z N i E) {kw fk fc vc most a b : Nat} (hkw : kw < 18) (hm : most ≤ 999) (e : knd (byt B z) i = 128 + kw) (e0 : E 72 fk = 0) (hfc : fc = 47 ∨ fc = 48 ∨ fc = 49) (hvc : vc = 38 ∨ vc = 39 ∨ vc = 40) (ho : PM (st E 72 fk 1) (sI N 105 fc 1)) (hv : ∀ E N v, PM E N → PM (st E a b v) (sI N 105 vc (nI v))) : ∃ K, wI N 105 fc 1 (fun M3 => bnd (f_Mo_told (lN (KW kw)) 0 (nI most) M3) (fun r4 M5 => wI M5 105 vc r4 (fun M6 => f_Mo_readLine_j216 M6))) = some ((), K) ∧ MO B z N (rb (sNmL (byt B z) i E fk most a b) (fun j E' => sExp (byt B z) 59 j E')) K := by
  have wf : wM 105 fc := by unfold wM; omega
  have wv : wM 105 vc := by unfold wM; omega
  have h1 : MS B z (sI N 105 fc 1) i (st E 72 fk 1) := MS.sI' (K := N) h wf (by omega) ho
  obtain ⟨v, K, t1, t0, t2⟩ := told_ok hz hB h1 hkw hm e
  rw [wI_eq, t1, bnd_s, wI_eq]
  unfold sNmL sOnc
  rw [if_pos e0]
  have f1 : FR N (sI N 105 fc 1) := FR.rfl'.sI wf
  rcases t2 with ⟨a1, a2, rfl, a4, a5⟩ | x
  · refine mend_ok hz hB ⟨(f1.trans a5.fr).sI wv, ?_⟩
    show match sNum (byt B z) most (i + 1) (fun v => .inl (i + 1 + 1, st (st E 72 fk 1) a b v)) with
      | .inl (i, E) => MS B z _ i E
      | .inr (k, pl) => _
    unfold sNum
    rw [if_pos a1, if_pos a2]
    exact MS.sI' (K := N) a4 wv (by omega) (hv _ _ _ a4.2.2)
  · obtain ⟨x1, -, q, x3⟩ := x (fun v => .inl (i + 1 + 1, st (st E 72 fk 1) a b v))
    show ∃ K', _ ∧ MO B z N (rb (sNum (byt B z) most (i + 1) (fun v => .inl (i + 1 + 1, st (st E 72 fk 1) a b v))) _) K'
    rw [x3] at x1 ⊢
    obtain ⟨c, d⟩ := q
    obtain ⟨y1, y2, y3, y4⟩ := x1
    refine mend_ok hz hB ⟨(f1.trans y1).sI wv, ?_, ?_, y4⟩
    · rw [gI_sI, if_neg (by omega)]; exact y2
    · rw [gI_sI, if_neg (by omega)]; exact y3
theorem j211_ok (hz : z ≤ 1600) (hB : ∀ i, i < z → B i < 256) (h : MS B z N i E) : ∃ K, f_Mo_readLine_j211 N = some ((), K) ∧ MO B z N (rb (flt (byt B z) i 2) (fun j E' => sExp (byt B z) 59 j E')) K := by
  unfold f_Mo_readLine_j211
  obtain ⟨K, k1, k2, -, -⟩ := wrong_ok hz hB h.1 h.2.2.1.1.1 (k := 2) (by decide) (by decide)
  have k1' : f_Mo_wrong 2 N = some ((), K) := k1
  rw [k1', bnd_s]
  exact mend_ok hz hB k2
theorem c01 {x : Nat} (h : x ≤ 1) : ¬ x = 0 → ¬ nI x = 0 := fun q r => q ((nI_eq (b := 0) (by omega) (by decide)).mp r)
theorem mline_ok (hz : z ≤ 1600) (hB : ∀ i, i < z → B i < 256) (h : MS B z N i E) (hO : okN E) (hD : knd (byt B z) i = 131 → E 72 3 = 0 → ∃ K, bnd (f_Mo_formula N) (fun _ M => f_Mo_readLine_j216 M) = some ((), K) ∧ MO B z N (rb (sDusk (byt B z) i E) (fun j E' => sExp (byt B z) 59 j E')) K) : ∃ K, f_Mo_readLine N = some ((), K) ∧ MO B z N (sLine (byt B z) i E) K := by
  obtain ⟨⟨o0, o1, -, -, -, -, o6, o7, o8, o9⟩, -⟩ := id hO
  have w : ∀ k, k < 18 → f_Mo_isWord (lN (KW k)) N = some (if knd (byt B z) i = 128 + k then 1 else 0, N) := fun k hk => isWord_ok hz hB h.1 hk
  have w0 : f_Mo_isWord 1818324336 N = some (if knd (byt B z) i = 128 then 1 else 0, N) := w 0 (by decide)
  have w1 : f_Mo_isWord 1668248164 N = some (if knd (byt B z) i = 129 then 1 else 0, N) := w 1 (by decide)
  have w2 : f_Mo_isWord 1852143732 N = some (if knd (byt B z) i = 130 then 1 else 0, N) := w 2 (by decide)
  have w3 : f_Mo_isWord 1685418859 N = some (if knd (byt B z) i = 131 then 1 else 0, N) := w 3 (by decide)
  have w4 : f_Mo_isWord 465557353332 N = some (if knd (byt B z) i = 132 then 1 else 0, N) := w 4 (by decide)
  have w5 : f_Mo_isWord 444352132211 N = some (if knd (byt B z) i = 133 then 1 else 0, N) := w 5 (by decide)
  have w6 : f_Mo_isWord 1685217655 N = some (if knd (byt B z) i = 134 then 1 else 0, N) := w 6 (by decide)
  obtain ⟨p1, p35, p36, p37, p38, p39, p40, p20, p17, p24, p47, p48, p49⟩ := h.2.2.1
  have r6 : ¬ (knd (byt B z) i = 134 ∧ E 72 6 = 0) → f_Mo_readLine_j171 N = f_Mo_readLine_j211 N := fun q => by
    unfold f_Mo_readLine_j171
    rw [w6, bnd_s]
    by_cases e : knd (byt B z) i = 134
    · rw [if_pos e, if_neg (by decide), p49, if_neg (c01 o9 (fun r => q ⟨e, r⟩))]
    · rw [if_neg e, if_pos rfl]
  have r5 : ¬ (knd (byt B z) i = 133 ∧ E 72 5 = 0) → f_Mo_readLine_j132 N = f_Mo_readLine_j171 N := fun q => by
    unfold f_Mo_readLine_j132
    rw [w5, bnd_s]
    by_cases e : knd (byt B z) i = 133
    · rw [if_pos e, if_neg (by decide), p48, if_neg (c01 o8 (fun r => q ⟨e, r⟩))]
    · rw [if_neg e, if_pos rfl]
  have r4 : ¬ (knd (byt B z) i = 132 ∧ E 72 4 = 0) → f_Mo_readLine_j93 N = f_Mo_readLine_j132 N := fun q => by
    unfold f_Mo_readLine_j93
    rw [w4, bnd_s]
    by_cases e : knd (byt B z) i = 132
    · rw [if_pos e, if_neg (by decide), p47, if_neg (c01 o7 (fun r => q ⟨e, r⟩))]
    · rw [if_neg e, if_pos rfl]
  have r3 : ¬ knd (byt B z) i = 130 → ¬ (knd (byt B z) i = 131 ∧ E 72 3 = 0) → f_Mo_readLine_j52 N = f_Mo_readLine_j93 N := fun q2 q => by
    unfold f_Mo_readLine_j52
    rw [w2, bnd_s, if_neg q2, if_pos rfl, w3, bnd_s]
    by_cases e : knd (byt B z) i = 131
    · rw [if_pos e, if_neg (by decide), p24, if_neg (c01 o6 (fun r => q ⟨e, r⟩))]
    · rw [if_neg e, if_pos rfl]
  have r1 : ¬ (knd (byt B z) i = 129 ∧ E 0 1 < 8) → f_Mo_readLine_j26 N = f_Mo_readLine_j52 N := fun q => by
    unfold f_Mo_readLine_j26
    rw [w1, bnd_s]
    by_cases e : knd (byt B z) i = 129
    · rw [if_pos e, if_neg (by decide), p36, nI_lit 8, if_pos (nI_le (by omega) (by omega))]
    · rw [if_neg e, if_pos rfl]
  have r0 : ¬ (knd (byt B z) i = 128 ∧ E 0 0 < 8) → f_Mo_readLine N = f_Mo_readLine_j26 N := fun q => by
    unfold f_Mo_readLine
    rw [w0, bnd_s]
    by_cases e : knd (byt B z) i = 128
    · rw [if_pos e, if_neg (by decide), p35, nI_lit 8, if_pos (nI_le (by omega) (by omega))]
    · rw [if_neg e, if_pos rfl]
  have bad := j211_ok hz hB h
  unfold sLine sBody
  by_cases h1 : knd (byt B z) i = 128
  · rw [if_pos h1]
    by_cases h8 : E 0 0 < 8
    · obtain ⟨K, k1, k2⟩ := mlamp_ok hz hB h hO h8
      have un : f_Mo_readLine N = f_Mo_readLine_j216 K := by
        unfold f_Mo_readLine
        rw [w0, bnd_s, if_pos h1, if_neg (by decide), p35, nI_lit 8, if_neg (nI_ge h8 (by decide)), k1, bnd_s]
      rw [un]
      exact mend_ok hz hB k2
    · rw [r0 (by omega), r1 (by omega), r3 (by omega) (by omega), r4 (by omega), r5 (by omega), r6 (by omega)]
      have es : sLamp (byt B z) i E = flt (byt B z) i 2 := by unfold sLamp; rw [if_pos (by omega)]
      rw [es]; exact bad
  rw [if_neg h1, r0 (by omega)]
  by_cases h2 : knd (byt B z) i = 129
  · rw [if_pos h2]
    by_cases h8 : E 0 1 < 8
    · obtain ⟨K, k1, k2⟩ := mcord_ok hz hB h hO h8
      have un : f_Mo_readLine_j26 N = f_Mo_readLine_j216 K := by
        unfold f_Mo_readLine_j26
        rw [w1, bnd_s, if_pos h2, if_neg (by decide), p36, nI_lit 8, if_neg (nI_ge h8 (by decide)), k1, bnd_s]
      rw [un]
      exact mend_ok hz hB k2
    · rw [r1 (by omega), r3 (by omega) (by omega), r4 (by omega), r5 (by omega), r6 (by omega)]
      have es : sCord (byt B z) i E = flt (byt B z) i 2 := by unfold sCord; rw [if_pos (by omega)]
      rw [es]; exact bad
  rw [if_neg h2, r1 (by omega)]
  by_cases h3 : knd (byt B z) i = 130
  · rw [if_pos h3]
    obtain ⟨K, k1, k2⟩ := mnext_ok hz hB h hO
    have un : f_Mo_readLine_j52 N = f_Mo_readLine_j216 K := by
      unfold f_Mo_readLine_j52
      rw [w2, bnd_s, if_pos h3, if_neg (by decide), k1, bnd_s]
    rw [un]
    exact mend_ok hz hB k2
  rw [if_neg h3]
  by_cases h4 : knd (byt B z) i = 131
  · rw [if_pos h4]
    by_cases e0 : E 72 3 = 0
    · obtain ⟨K, k1, k2⟩ := hD h4 e0
      refine ⟨K, ?_, k2⟩
      unfold f_Mo_readLine_j52
      rw [w2, bnd_s, if_neg h3, if_pos rfl, w3, bnd_s, if_pos h4, if_neg (by decide), p24, e0, if_pos (show nI 0 = 0 from rfl)]
      exact k1
    · rw [r3 h3 (by omega), r4 (by omega), r5 (by omega), r6 (by omega)]
      have es : sDusk (byt B z) i E = flt (byt B z) i 2 := by unfold sDusk sOnc; rw [if_neg e0]
      rw [es]; exact bad
  rw [if_neg h4, r3 h3 (by omega)]
  by_cases h5 : knd (byt B z) i = 132
  · rw [if_pos h5]
    by_cases e0 : E 72 4 = 0
    · obtain ⟨K, k1, k2⟩ := mnum_ok hz hB h (kw := 4) (fk := 4) (fc := 47) (vc := 38) (most := 8) (a := 0) (b := 3) (by decide) (by decide) h5 e0 (by decide) (by decide) h.2.2.o4 (fun E N v hP => hP.lst)
      refine ⟨K, ?_, k2⟩
      unfold f_Mo_readLine_j93
      rw [w4, bnd_s, if_pos h5, if_neg (by decide), p47, e0, if_pos (show nI 0 = 0 from rfl)]
      exact k1
    · rw [r4 (by omega), r5 (by omega), r6 (by omega)]
      have es : sNmL (byt B z) i E 4 8 0 3 = flt (byt B z) i 2 := by unfold sNmL sOnc; rw [if_neg e0]
      rw [es]; exact bad
  rw [if_neg h5, r4 (by omega)]
  by_cases h6 : knd (byt B z) i = 133
  · rw [if_pos h6]
    by_cases e0 : E 72 5 = 0
    · obtain ⟨K, k1, k2⟩ := mnum_ok hz hB h (kw := 5) (fk := 5) (fc := 48) (vc := 39) (most := 100) (a := 0) (b := 4) (by decide) (by decide) h6 e0 (by decide) (by decide) h.2.2.o5 (fun E N v hP => hP.gst)
      refine ⟨K, ?_, k2⟩
      unfold f_Mo_readLine_j132
      rw [w5, bnd_s, if_pos h6, if_neg (by decide), p48, e0, if_pos (show nI 0 = 0 from rfl)]
      exact k1
    · rw [r5 (by omega), r6 (by omega)]
      have es : sNmL (byt B z) i E 5 100 0 4 = flt (byt B z) i 2 := by unfold sNmL sOnc; rw [if_neg e0]
      rw [es]; exact bad
  rw [if_neg h6, r5 (by omega)]
  by_cases h7 : knd (byt B z) i = 134
  · rw [if_pos h7]
    by_cases e0 : E 72 6 = 0
    · obtain ⟨K, k1, k2⟩ := mnum_ok hz hB h (kw := 6) (fk := 6) (fc := 49) (vc := 40) (most := 999) (a := 73) (b := 0) (by decide) (by decide) h7 e0 (by decide) (by decide) h.2.2.o6 (fun E N v hP => hP.drw)
      refine ⟨K, ?_, k2⟩
      unfold f_Mo_readLine_j171
      rw [w6, bnd_s, if_pos h7, if_neg (by decide), p49, e0, if_pos (show nI 0 = 0 from rfl)]
      exact k1
    · rw [r6 (by omega)]
      have es : sNmL (byt B z) i E 6 999 73 0 = flt (byt B z) i 2 := by unfold sNmL sOnc; rw [if_neg e0]
      rw [es]; exact bad
  rw [if_neg h7, r6 (by omega)]
  exact bad
/-- all lines -/
theorem mall_loop (hz : z ≤ 1600) (hB : ∀ i, i < z → B i < 256) (hD : ∀ i N E, MS B z N i E → okN E → knd (byt B z) i = 131 → E 72 3 = 0 → ∃ K, bnd (f_Mo_formula N) (fun _ M => f_Mo_readLine_j216 M) = some ((), K) ∧ MO B z N (rb (sDusk (byt B z) i E) (fun j E' => sExp (byt B z) 59 j E')) K) : ∀ c i N E y, nE (byt B z) < i + c → i ≤ nE (byt B z) → c < y → MS B z N i E → okN E → ∃ K, f_Mo_readAll_l87 y N = some ((), K) ∧ MO B z N (sAll (byt B z) c i E) K := by
  intro c
  induction c with
  | zero =>
    intro i N E y hc hi hy h hO
    omega
  | succ c ih =>
    intro i N E y hc hi hy h hO
    obtain ⟨y, rfl⟩ : ∃ x, y = x + 1 := ⟨y - 1, by omega⟩
    have un : f_Mo_readAll_l87 (y + 1) N = f_Mo_readAll_b87 (f_Mo_readAll_l87 y) N := rfl
    rw [un, sAll_s]
    unfold f_Mo_readAll_b87
    rw [h.2.2.1.1.1, if_pos rfl]
    by_cases e0 : knd (byt B z) i = 0
    · rw [if_pos ((sI6 hz hB h.1 0 (by decide)).mpr (srt_0.mpr e0)), if_pos e0]
      exact ⟨N, rfl, FR.rfl', h⟩
    · rw [if_neg (fun q => e0 (srt_0.mp ((sI6 hz hB h.1 0 (by decide)).mp q))), if_neg e0]
      obtain ⟨K, k1, k2⟩ := mline_ok hz hB h hO (hD i N E h hO)
      rw [k1, bnd_s]
      rcases k2.cases with ⟨j, E', g1, g2, g3⟩ | ⟨q, g1, g2, g3, g4⟩
      · rw [g1, rb_l]
        obtain ⟨a1, a2, a3⟩ := sLine_in hz hB g1 hO
        obtain ⟨K2, x1, x2⟩ := ih j K E' y (by omega) a3 (by omega) g2 a1
        exact ⟨K2, x1, x2.from g3⟩
      · rw [g1, rb_r]
        refine ⟨K, ?_, g4⟩
        obtain ⟨y, rfl⟩ : ∃ x, y = x + 1 := ⟨y - 1, by omega⟩
        show f_Mo_readAll_b87 (f_Mo_readAll_l87 y) K = _
        unfold f_Mo_readAll_b87
        rw [if_neg g2]
end MA
