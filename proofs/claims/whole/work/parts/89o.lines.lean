/-! lines of the class but the dusk's -/
def st (E : DT) (a k v : Nat) : DT := fun x y => if x = a ∧ y = k then v else E x y
theorem st_at (E : DT) (a k v : Nat) : st E a k v a k = v := if_pos ⟨rfl, rfl⟩
theorem st_ro {E : DT} {a k v x y : Nat} (h : ¬ x = a) : st E a k v x y = E x y := if_neg (fun e => h e.1)
theorem st_co {E : DT} {a k v x y : Nat} (h : ¬ y = k) : st E a k v x y = E x y := if_neg (fun e => h e.2)
theorem lN_in {a b : Nat} (ha : a < 2 ^ 63) (hb : b < 2 ^ 63) (h : lN a = lN b) : a = b := by
  have h2 := congrArg (fun x : Int64 => x.toBitVec.toNat) h
  have h3 : (BitVec.ofNat 64 a).toNat = (BitVec.ofNat 64 b).toNat := h2
  rw [BitVec.toNat_ofNat, BitVec.toNat_ofNat, Nat.mod_eq_of_lt (by omega), Nat.mod_eq_of_lt (by omega)] at h3
  exact h3
def fdw (g : Nat → Nat) (n w : Nat) : Option Nat := ffs (fun k => decide (g k = w)) n 0
theorem fdw_at {g : Nat → Nat} {n w l : Nat} (h : fdw g n w = some l) : l < n ∧ g l = w := by
  obtain ⟨-, a, b⟩ := ffs_at n 0 l h
  exact ⟨by omega, by simpa using b⟩
theorem fdw_no {g : Nat → Nat} {n w : Nat} (h : fdw g n w = none) : ∀ l, l < n → ¬ g l = w := fun l hl => by
  have := ffs_no n 0 h l (by omega) (by omega)
  simpa using this
def wdf (f : Nat → Nat) (i : Nat) : Nat := tkW f (plc f i)
theorem CO.from {f : Nat → Nat} {p : Nat} {N0 N K : AM} {r : RSL} {v : Int32} (h : FC p N0 N) (h2 : CO f p N r v K) : CO f p N0 r v K := ⟨h.trans h2.1, h2.2⟩
section RL
variable {B : Nat → Nat} {z : Nat} {N : AM} {E : DT} {p i : Nat}
theorem lampNamed_ok (hP : PC E p N) (hO : okN E) {w : Nat} (hw : vwd w) : f_Plan_lampNamed p (lN (c32 w)) N = some (opI (fdw (E 70) (E 0 0) w), N) := by
  have h8 := hO.1.1
  refine first_loop (f_Plan_lampNamed_l2 p (lN (c32 w))) (fun k => decide (E 70 k = w)) (E 0 0) (by omega) (fun k y hk => ?_) (fun y => ?_)
  · show f_Plan_lampNamed_b2 (f_Plan_lampNamed_l2 p (lN (c32 w)) y) p (lN (c32 w)) (nI k) N = _
    unfold f_Plan_lampNamed_b2
    rw [hP.1.2.1, if_neg (nI_ge hk (by omega)), lald_nI (by omega) (by decide), (hP.2.1 k hk).1, nI_1]
    have hv := (hO.2.1 k hk).1
    by_cases e : E 70 k = w
    · rw [if_pos ((lg_cmp_eq _ _).mpr (by rw [e])), if_pos (by simp [e])]
    · rw [if_neg (fun q => e ((c32_eq hv hw).mp (lN_in (vwd_lt hv).2 (vwd_lt hw).2 ((lg_cmp_eq _ _).mp q)))), if_neg (by simp [e])]
  · show f_Plan_lampNamed_b2 (f_Plan_lampNamed_l2 p (lN (c32 w)) y) p (lN (c32 w)) (nI (E 0 0)) N = _
    unfold f_Plan_lampNamed_b2
    rw [hP.1.2.1, if_pos (nI_le (Nat.le_refl _) (by omega))]
theorem hasCordNamed_ok (hP : PC E p N) (hO : okN E) {w : Nat} (hw : vwd w) : f_Plan_hasCordNamed p (lN (c32 w)) N = some (if (fdw (E 71) (E 0 1) w).isSome = true then 1 else 0, N) := by
  have h8 := hO.1.2.1
  have key : ∃ o, f_Plan_hasCordNamed_l2 p (lN (c32 w)) fu 0 N = some o ∧ (bn2 (some o) (fun _ M2 => some (0, M2)) = some (if (fdw (E 71) (E 0 1) w).isSome = true then 1 else 0, N)) := by
    refine for_inv (fun y (s : Int32 × AM) => f_Plan_hasCordNamed_l2 p (lN (c32 w)) y s.1 s.2) (fun k s => s = (nI k, N) ∧ fdw (E 71) (E 0 1) w = ffs (fun k => decide (E 71 k = w)) (E 0 1 - k) k) (E 0 1) _ (fun k s y hk hI => ?_) (fun s y hI => ?_) (E 0 1) 0 (nI 0, N) fu (by omega) (by rw [fu_eq]; omega) ⟨rfl, rfl⟩
    · obtain ⟨rfl, i1⟩ := hI
      have e : ffs (fun k => decide (E 71 k = w)) (E 0 1 - k) k = if decide (E 71 k = w) = true then some k else ffs (fun k => decide (E 71 k = w)) (E 0 1 - (k + 1)) (k + 1) := by
        rw [show E 0 1 - k = (E 0 1 - (k + 1)) + 1 by omega, ffs_s]
      have hv := (hO.2.2.1 k hk).1
      have un : f_Plan_hasCordNamed_l2 p (lN (c32 w)) (y + 1) (nI k) N = if (lg_cmp (lN (c32 (E 71 k))) (lN (c32 w))) = 0 then some (.inr (1, N)) else f_Plan_hasCordNamed_l2 p (lN (c32 w)) y (nI (k + 1)) N := by
        show f_Plan_hasCordNamed_b2 (f_Plan_hasCordNamed_l2 p (lN (c32 w)) y) p (lN (c32 w)) (nI k) N = _
        unfold f_Plan_hasCordNamed_b2
        rw [hP.1.2.2.2.1, if_neg (nI_ge hk (by omega)), lald_nI (by omega) (by decide), (hP.2.2.1 k hk).1, nI_1]
      by_cases hp : E 71 k = w
      · right
        refine ⟨.inr (1, N), ?_, ?_⟩
        · show f_Plan_hasCordNamed_l2 p (lN (c32 w)) (y + 1) (nI k) N = _
          rw [un, if_pos ((lg_cmp_eq _ _).mpr (by rw [hp]))]
        · rw [bn2_r, i1, e, if_pos (by simp [hp])]
          first | done | rfl
      · left
        refine ⟨(nI (k + 1), N), ⟨rfl, by rw [i1, e, if_neg (by simp [hp])]⟩, ?_⟩
        show f_Plan_hasCordNamed_l2 p (lN (c32 w)) (y + 1) (nI k) N = _
        rw [un, if_neg (fun q => hp ((c32_eq hv hw).mp (lN_in (vwd_lt hv).2 (vwd_lt hw).2 ((lg_cmp_eq _ _).mp q))))]
    · obtain ⟨rfl, i1⟩ := hI
      refine ⟨.inl ((), N), ?_, ?_⟩
      · show f_Plan_hasCordNamed_b2 (f_Plan_hasCordNamed_l2 p (lN (c32 w)) y) p (lN (c32 w)) (nI (E 0 1)) N = _
        unfold f_Plan_hasCordNamed_b2
        rw [hP.1.2.2.2.1, if_pos (nI_le (Nat.le_refl _) (by omega))]
      · rw [bn2_l, i1, Nat.sub_self]
        rfl
  obtain ⟨o, k1, k2⟩ := key
  unfold f_Plan_hasCordNamed
  rw [k1]
  exact k2
/-- a lamp that must be told already -/
def sOld (f : Nat → Nat) (i : Nat) (E : DT) (ok : Nat → RSL) : RSL := if knd f i = 2 then (match fdw (E 70) (E 0 0) (wdf f i) with | some l => ok l | none => flt f i 5) else flt f i 2
theorem sOld_s {f : Nat → Nat} {l : Nat} {ok : Nat → RSL} (h : knd f i = 2) (h2 : fdw (E 70) (E 0 0) (wdf f i) = some l) : sOld f i E ok = ok l := by unfold sOld; rw [if_pos h, h2]
theorem sOld_n {f : Nat → Nat} {ok : Nat → RSL} (h : knd f i = 2) (h2 : fdw (E 70) (E 0 0) (wdf f i) = none) : sOld f i E ok = flt f i 5 := by unfold sOld; rw [if_pos h, h2]
theorem sOld_x {f : Nat → Nat} {ok : Nat → RSL} (h : ¬ knd f i = 2) : sOld f i E ok = flt f i 2 := by unfold sOld; rw [if_neg h]
theorem knownLamp_ok (hz : z ≤ 1600) (hB : ∀ i, i < z → B i < 256) (hp : p = 8 ∨ p = 23) (h : CT (byt B z) N i) (hP : PC E p N) (hO : okN E) : ∃ v K, f_Reader_knownLamp N = some (v, K) ∧ ((∃ l, l < E 0 0 ∧ v = nI l ∧ K = N ∧ ∀ ok, sOld (byt B z) i E ok = ok l) ∨ (v = -1 ∧ ∀ ok, CO (byt B z) p N (sOld (byt B z) i E ok) 0 K)) := by
  unfold f_Reader_knownLamp
  rw [h.2.1]
  by_cases e : knd (byt B z) i = 2
  · have hw := tkW_v hz (Or.inl e) (knd_lt hz hB i)
    rw [if_pos ((kndL hz hB i 2 (by decide)).mpr e), hP.1.1.1, ckK_eq (kd_p hp), h.2.2.2.2 e, lampNamed_ok hP hO hw.1, bnd_s]
    cases hf : fdw (E 70) (E 0 0) (tkW (byt B z) (plc (byt B z) i)) with
    | some l =>
      obtain ⟨f1, f2⟩ := fdw_at hf
      refine ⟨nI l, N, ?_, Or.inl ⟨l, f1, rfl, rfl, fun ok => sOld_s e hf⟩⟩
      show (if 0 ≤ nI l then _ else _) = _
      rw [← nI_0, if_pos (nI_le (Nat.zero_le _) (by have := hO.1.1; omega))]
      rfl
    | none =>
      obtain ⟨K, k1, k2⟩ := refuse_ok (p := p) hz hB h 5
      refine ⟨-1, K, ?_, Or.inr ⟨rfl, fun ok => ?_⟩⟩
      · show (if 0 ≤ (-1 : Int32) then _ else bnd (f_Reader_refuse (nI 5) N) _) = _
        rw [if_neg (by decide), k1, bnd_s]; rfl
      · rw [sOld_n e hf]; exact k2
  · obtain ⟨K, k1, k2⟩ := refuse_ok (p := p) hz hB h 2
    refine ⟨-1, K, ?_, Or.inr ⟨rfl, fun ok => ?_⟩⟩
    · rw [if_neg (fun q => e ((kndL hz hB i 2 (by decide)).mp q))]
      show bnd (f_Reader_refuse (nI 2) N) _ = _
      rw [k1, bnd_s]
    · rw [sOld_x e]; exact k2
/-- a lamp is told -/
def addL (E : DT) (w : Nat) : DT := st (st (st (st E 70 (E 0 0) w) 1 (E 0 0) 1) 2 (E 0 0) 0) 0 0 (E 0 0 + 1)
def sWat (f : Nat → Nat) (n i : Nat) (E : DT) : RSL := if knd f i = 144 then sNum f 99 (i + 1) (fun v => .inl (i + 2, st E 1 n v)) else .inl (i, E)
def sLamp (f : Nat → Nat) (i : Nat) (E : DT) : RSL := if 8 ≤ E 0 0 then flt f i 2 else if knd f (i + 1) = 2 then (if (fdw (E 70) (E 0 0) (wdf f (i + 1))).isSome = true then flt f (i + 1) 3 else if knd f (i + 2) = 140 then sWat f (E 0 0) (i + 3) (st (addL E (wdf f (i + 1))) 0 2 (E 0 2 + 2 ^ E 0 0)) else sWat f (E 0 0) (i + 2) (addL E (wdf f (i + 1)))) else flt f (i + 1) 2
theorem addLamp_ok (hp : p = 8 ∨ p = 23) (hP : PC E p N) (h8 : E 0 0 < 8) (w : Nat) : ∃ K, f_Plan_addLamp p (lN (c32 w)) N = some (nI (E 0 0), K) ∧ PC (addL E w) p K ∧ FC p N K ∧ (∀ c k, c = 3 ∨ c = 4 ∨ c = 5 → gI K c k = gI N c k) ∧ (∀ c k, c = 3 ∨ c = 6 → gL K c k = gL N c k) := by
  obtain ⟨⟨a0, a1, a2, a3, a4, a5, a6, a7, a8, a9⟩, b, d, e⟩ := hP
  refine ⟨sI (sI (sI (sI (sL N (p + 1) (E 0 0) (lN (c32 w))) (p + 2) (E 0 0) 1) (p + 3) (E 0 0) 0) (p + 4) (E 0 0) 0) p 0 (nI (E 0 0 + 1)), ?_, ?_, ?_, ?_, ?_⟩
  · unfold f_Plan_addLamp
    rw [a1, nI_lit 8, if_neg (nI_ge h8 (by decide)), last_nI h8 (by decide), ast_nI h8 (by decide), ast_nI h8 (by decide), ast_nI h8 (by decide), wI_eq]
    have e0 : gI (sI (sI (sI (sL N (p + 1) (E 0 0) (lN (c32 w))) (p + 2) (E 0 0) 1) (p + 3) (E 0 0) 0) (p + 4) (E 0 0) 0) p 0 = nI (E 0 0) := by
      rw [gI_sI, if_neg (by omega), gI_sI, if_neg (by omega), gI_sI, if_neg (by omega), gI_sL]; exact a1
    rw [e0, nI_1]
  · have ge : ∀ c k, ¬ (c = p + 2 ∨ c = p + 3 ∨ c = p + 4 ∨ (c = p ∧ k = 0)) → gI (sI (sI (sI (sI (sL N (p + 1) (E 0 0) (lN (c32 w))) (p + 2) (E 0 0) 1) (p + 3) (E 0 0) 0) (p + 4) (E 0 0) 0) p 0 (nI (E 0 0 + 1))) c k = gI N c k := fun c k q => by
      rw [gI_sI, if_neg (by omega), gI_sI, if_neg (by omega), gI_sI, if_neg (by omega), gI_sI, if_neg (by omega), gI_sL]
    refine ⟨⟨⟨a0.1, by rw [ge _ _ (by omega)]; exact a0.2.1, by rw [ge _ _ (by omega)]; exact a0.2.2⟩, by rw [gI_sI, if_pos ⟨rfl, rfl⟩]; rfl, ?_, ?_, ?_, ?_, ?_, ?_, ?_, ?_⟩, fun l hl => ?_, fun c hc => ?_, fun j hj => ?_⟩
    · rw [ge _ _ (by omega)]; exact a2
    · rw [ge _ _ (by omega)]; exact a3
    · rw [ge _ _ (by omega)]; exact a4
    · rw [ge _ _ (by omega)]; exact a5
    · rw [ge _ _ (by omega)]; exact a6
    · rw [ge _ _ (by omega)]; exact a7
    · rw [ge _ _ (by omega)]; exact a8
    · rw [ge _ _ (by omega)]; exact a9
    · have hl' : l < E 0 0 + 1 := hl
      by_cases el : l = E 0 0
      · subst el
        refine ⟨?_, ?_, ?_, ?_⟩
        · show (if p + 1 = p + 1 ∧ E 0 0 = E 0 0 then lN (c32 w) else _) = lN (c32 (addL E w 70 (E 0 0)))
          rw [if_pos ⟨rfl, rfl⟩]
          unfold addL
          rw [st_ro (by decide), st_ro (by decide), st_ro (by decide), st_at]
        · rw [gI_sI, if_neg (by omega), gI_sI, if_neg (by omega), gI_sI, if_neg (by omega), gI_sI, if_pos ⟨rfl, rfl⟩]
          unfold addL
          rw [st_ro (by decide), st_ro (by decide), st_at]; rfl
        · rw [gI_sI, if_neg (by omega), gI_sI, if_neg (by omega), gI_sI, if_pos ⟨rfl, rfl⟩]
        · rw [gI_sI, if_neg (by omega), gI_sI, if_pos ⟨rfl, rfl⟩]
          unfold addL
          rw [st_ro (by decide), st_at]; rfl
      · obtain ⟨b1, b2, b3, b4⟩ := b l (by omega)
        have hx : ∀ x, ¬ x = 0 → addL E w x l = E x l := fun x hx => by
          unfold addL
          rw [st_ro hx, st_co el, st_co el, st_co el]
        rw [hx 70 (by decide), hx 1 (by decide), hx 2 (by decide)]
        refine ⟨?_, ?_, ?_, ?_⟩
        · show (if p + 1 = p + 1 ∧ l = E 0 0 then lN (c32 w) else gL N (p + 1) l) = _
          rw [if_neg (fun q => el q.2)]; exact b1
        · rw [gI_sI, if_neg (by omega), gI_sI, if_neg (by omega), gI_sI, if_neg (by omega), gI_sI, if_neg (by omega), gI_sL]; exact b2
        · rw [gI_sI, if_neg (by omega), gI_sI, if_neg (by omega), gI_sI, if_neg (by omega), gI_sI, if_neg (by omega), gI_sL]; exact b3
        · rw [gI_sI, if_neg (by omega), gI_sI, if_neg (by omega), gI_sI, if_neg (by omega), gI_sI, if_neg (by omega), gI_sL]; exact b4
    · obtain ⟨d1, d2, d3⟩ := d c hc
      refine ⟨?_, ?_, ?_⟩
      · show (if p + 5 = p + 1 ∧ c = E 0 0 then lN (c32 w) else gL N (p + 5) c) = _
        rw [if_neg (by omega)]; exact d1
      · rw [ge _ _ (by omega)]; exact d2
      · rw [ge _ _ (by omega)]; exact d3
    · rw [ge _ _ (by omega)]; exact e j hj
  · have w1 : ∀ k, k ≤ 7 ∨ (9 ≤ k ∧ k ≤ 14) → wC p (p + k) := fun k hk => by unfold wC; omega
    exact ((((FC.rfl'.sL).sI (w1 2 (by decide))).sI (w1 3 (by decide))).sI (w1 4 (by decide))).sI (w1 0 (by decide))
  · intro c k q
    rw [gI_sI, if_neg (by omega), gI_sI, if_neg (by omega), gI_sI, if_neg (by omega), gI_sI, if_neg (by omega), gI_sL]
  · intro c k q
    show (if c = p + 1 ∧ k = E 0 0 then lN (c32 w) else gL N c k) = _
    rw [if_neg (by omega)]
theorem PC.lit (hp : p = 8 ∨ p = 23) (h : PC E p N) (v : Nat) : PC (st E 0 2 v) p (sI N p 1 (nI v)) := by
  obtain ⟨⟨a0, a1, a2, a3, a4, a5, a6, a7, a8, a9⟩, b, d, e⟩ := h
  refine ⟨⟨a0.sI (by omega), ?_, ?_, ?_, ?_, ?_, ?_, ?_, ?_, ?_⟩, fun l hl => ?_, fun m hm => ?_, fun i hi => ?_⟩
  · rw [gI_sI, if_neg (by omega), st_co (by decide)]; exact a1
  · rw [gI_sI, if_pos ⟨rfl, rfl⟩, st_at]
  · rw [gI_sI, if_neg (by omega), st_co (by decide)]; exact a3
  · rw [gI_sI, if_neg (by omega), st_co (by decide)]; exact a4
  · rw [gI_sI, if_neg (by omega), st_co (by decide)]; exact a5
  · rw [gI_sI, if_neg (by omega), st_ro (by decide)]; exact a6
  · rw [gI_sI, if_neg (by omega), st_co (by decide)]; exact a7
  · rw [gI_sI, if_neg (by omega), st_co (by decide)]; exact a8
  · rw [gI_sI, if_neg (by omega), st_ro (by decide), st_ro (by decide), st_ro (by decide), st_ro (by decide)]; exact a9
  · obtain ⟨x0, x1, x2, x3⟩ := b l hl
    refine ⟨?_, ?_, ?_, ?_⟩
    · rw [st_ro (by decide)]; exact x0
    · rw [gI_sI, if_neg (by omega), st_ro (by decide)]; exact x1
    · rw [gI_sI, if_neg (by omega)]; exact x2
    · rw [gI_sI, if_neg (by omega), st_ro (by decide)]; exact x3
  · obtain ⟨x0, x1, x2⟩ := d m hm
    refine ⟨?_, ?_, ?_⟩
    · rw [st_ro (by decide)]; exact x0
    · rw [gI_sI, if_neg (by omega), st_ro (by decide)]; exact x1
    · rw [gI_sI, if_neg (by omega), st_ro (by decide)]; exact x2
  · rw [gI_sI, if_neg (by omega), st_ro (by decide), st_ro (by decide)]; exact e i hi
theorem PC.watt (hp : p = 8 ∨ p = 23) (h : PC E p N) (v n : Nat) : PC (st E 1 n v) p (sI N (p + 2) n (nI v)) := by
  obtain ⟨⟨a0, a1, a2, a3, a4, a5, a6, a7, a8, a9⟩, b, d, e⟩ := h
  refine ⟨⟨a0.sI (by omega), ?_, ?_, ?_, ?_, ?_, ?_, ?_, ?_, ?_⟩, fun l hl => ?_, fun m hm => ?_, fun i hi => ?_⟩
  · rw [gI_sI, if_neg (by omega), st_ro (by decide)]; exact a1
  · rw [gI_sI, if_neg (by omega), st_ro (by decide)]; exact a2
  · rw [gI_sI, if_neg (by omega), st_ro (by decide)]; exact a3
  · rw [gI_sI, if_neg (by omega), st_ro (by decide)]; exact a4
  · rw [gI_sI, if_neg (by omega), st_ro (by decide)]; exact a5
  · rw [gI_sI, if_neg (by omega), st_ro (by decide)]; exact a6
  · rw [gI_sI, if_neg (by omega), st_ro (by decide)]; exact a7
  · rw [gI_sI, if_neg (by omega), st_ro (by decide)]; exact a8
  · rw [gI_sI, if_neg (by omega), st_ro (by decide), st_ro (by decide), st_ro (by decide), st_ro (by decide)]; exact a9
  · obtain ⟨x0, x1, x2, x3⟩ := b l hl
    refine ⟨?_, ?_, ?_, ?_⟩
    · rw [st_ro (by decide)]; exact x0
    · by_cases el : l = n
      · rw [el, gI_sI, if_pos ⟨rfl, rfl⟩, st_at]
      · rw [gI_sI, if_neg (by omega), st_co el]; exact x1
    · rw [gI_sI, if_neg (by omega)]; exact x2
    · rw [gI_sI, if_neg (by omega), st_ro (by decide)]; exact x3
  · obtain ⟨x0, x1, x2⟩ := d m hm
    refine ⟨?_, ?_, ?_⟩
    · rw [st_ro (by decide)]; exact x0
    · rw [gI_sI, if_neg (by omega), st_ro (by decide)]; exact x1
    · rw [gI_sI, if_neg (by omega), st_ro (by decide)]; exact x2
  · rw [gI_sI, if_neg (by omega), st_ro (by decide), st_ro (by decide)]; exact e i hi
theorem PC.near (hp : p = 8 ∨ p = 23) (h : PC E p N) (v n : Nat) : PC (st E 2 n v) p (sI N (p + 4) n (nI v)) := by
  obtain ⟨⟨a0, a1, a2, a3, a4, a5, a6, a7, a8, a9⟩, b, d, e⟩ := h
  refine ⟨⟨a0.sI (by omega), ?_, ?_, ?_, ?_, ?_, ?_, ?_, ?_, ?_⟩, fun l hl => ?_, fun m hm => ?_, fun i hi => ?_⟩
  · rw [gI_sI, if_neg (by omega), st_ro (by decide)]; exact a1
  · rw [gI_sI, if_neg (by omega), st_ro (by decide)]; exact a2
  · rw [gI_sI, if_neg (by omega), st_ro (by decide)]; exact a3
  · rw [gI_sI, if_neg (by omega), st_ro (by decide)]; exact a4
  · rw [gI_sI, if_neg (by omega), st_ro (by decide)]; exact a5
  · rw [gI_sI, if_neg (by omega), st_ro (by decide)]; exact a6
  · rw [gI_sI, if_neg (by omega), st_ro (by decide)]; exact a7
  · rw [gI_sI, if_neg (by omega), st_ro (by decide)]; exact a8
  · rw [gI_sI, if_neg (by omega), st_ro (by decide), st_ro (by decide), st_ro (by decide), st_ro (by decide)]; exact a9
  · obtain ⟨x0, x1, x2, x3⟩ := b l hl
    refine ⟨?_, ?_, ?_, ?_⟩
    · rw [st_ro (by decide)]; exact x0
    · rw [gI_sI, if_neg (by omega), st_ro (by decide)]; exact x1
    · rw [gI_sI, if_neg (by omega)]; exact x2
    · by_cases el : l = n
      · rw [el, gI_sI, if_pos ⟨rfl, rfl⟩, st_at]
      · rw [gI_sI, if_neg (by omega), st_co el]; exact x3
  · obtain ⟨x0, x1, x2⟩ := d m hm
    refine ⟨?_, ?_, ?_⟩
    · rw [st_ro (by decide)]; exact x0
    · rw [gI_sI, if_neg (by omega), st_ro (by decide)]; exact x1
    · rw [gI_sI, if_neg (by omega), st_ro (by decide)]; exact x2
  · rw [gI_sI, if_neg (by omega), st_ro (by decide), st_ro (by decide)]; exact e i hi
theorem PC.turn (hp : p = 8 ∨ p = 23) (h : PC E p N) (v n : Nat) : PC (st E 3 n v) p (sI N (p + 6) n (nI v)) := by
  obtain ⟨⟨a0, a1, a2, a3, a4, a5, a6, a7, a8, a9⟩, b, d, e⟩ := h
  refine ⟨⟨a0.sI (by omega), ?_, ?_, ?_, ?_, ?_, ?_, ?_, ?_, ?_⟩, fun l hl => ?_, fun m hm => ?_, fun i hi => ?_⟩
  · rw [gI_sI, if_neg (by omega), st_ro (by decide)]; exact a1
  · rw [gI_sI, if_neg (by omega), st_ro (by decide)]; exact a2
  · rw [gI_sI, if_neg (by omega), st_ro (by decide)]; exact a3
  · rw [gI_sI, if_neg (by omega), st_ro (by decide)]; exact a4
  · rw [gI_sI, if_neg (by omega), st_ro (by decide)]; exact a5
  · rw [gI_sI, if_neg (by omega), st_ro (by decide)]; exact a6
  · rw [gI_sI, if_neg (by omega), st_ro (by decide)]; exact a7
  · rw [gI_sI, if_neg (by omega), st_ro (by decide)]; exact a8
  · rw [gI_sI, if_neg (by omega), st_ro (by decide), st_ro (by decide), st_ro (by decide), st_ro (by decide)]; exact a9
  · obtain ⟨x0, x1, x2, x3⟩ := b l hl
    refine ⟨?_, ?_, ?_, ?_⟩
    · rw [st_ro (by decide)]; exact x0
    · rw [gI_sI, if_neg (by omega), st_ro (by decide)]; exact x1
    · rw [gI_sI, if_neg (by omega)]; exact x2
    · rw [gI_sI, if_neg (by omega), st_ro (by decide)]; exact x3
  · obtain ⟨x0, x1, x2⟩ := d m hm
    refine ⟨?_, ?_, ?_⟩
    · rw [st_ro (by decide)]; exact x0
    · by_cases el : m = n
      · rw [el, gI_sI, if_pos ⟨rfl, rfl⟩, st_at]
      · rw [gI_sI, if_neg (by omega), st_co el]; exact x1
    · rw [gI_sI, if_neg (by omega), st_ro (by decide)]; exact x2
  · rw [gI_sI, if_neg (by omega), st_ro (by decide), st_ro (by decide)]; exact e i hi
theorem PC.cost (hp : p = 8 ∨ p = 23) (h : PC E p N) (v n : Nat) : PC (st E 4 n v) p (sI N (p + 7) n (nI v)) := by
  obtain ⟨⟨a0, a1, a2, a3, a4, a5, a6, a7, a8, a9⟩, b, d, e⟩ := h
  refine ⟨⟨a0.sI (by omega), ?_, ?_, ?_, ?_, ?_, ?_, ?_, ?_, ?_⟩, fun l hl => ?_, fun m hm => ?_, fun i hi => ?_⟩
  · rw [gI_sI, if_neg (by omega), st_ro (by decide)]; exact a1
  · rw [gI_sI, if_neg (by omega), st_ro (by decide)]; exact a2
  · rw [gI_sI, if_neg (by omega), st_ro (by decide)]; exact a3
  · rw [gI_sI, if_neg (by omega), st_ro (by decide)]; exact a4
  · rw [gI_sI, if_neg (by omega), st_ro (by decide)]; exact a5
  · rw [gI_sI, if_neg (by omega), st_ro (by decide)]; exact a6
  · rw [gI_sI, if_neg (by omega), st_ro (by decide)]; exact a7
  · rw [gI_sI, if_neg (by omega), st_ro (by decide)]; exact a8
  · rw [gI_sI, if_neg (by omega), st_ro (by decide), st_ro (by decide), st_ro (by decide), st_ro (by decide)]; exact a9
  · obtain ⟨x0, x1, x2, x3⟩ := b l hl
    refine ⟨?_, ?_, ?_, ?_⟩
    · rw [st_ro (by decide)]; exact x0
    · rw [gI_sI, if_neg (by omega), st_ro (by decide)]; exact x1
    · rw [gI_sI, if_neg (by omega)]; exact x2
    · rw [gI_sI, if_neg (by omega), st_ro (by decide)]; exact x3
  · obtain ⟨x0, x1, x2⟩ := d m hm
    refine ⟨?_, ?_, ?_⟩
    · rw [st_ro (by decide)]; exact x0
    · rw [gI_sI, if_neg (by omega), st_ro (by decide)]; exact x1
    · by_cases el : m = n
      · rw [el, gI_sI, if_pos ⟨rfl, rfl⟩, st_at]
      · rw [gI_sI, if_neg (by omega), st_co el]; exact x2
  · rw [gI_sI, if_neg (by omega), st_ro (by decide), st_ro (by decide)]; exact e i hi
theorem PC.lst (hp : p = 8 ∨ p = 23) (h : PC E p N) (v : Nat) : PC (st E 0 3 v) p (sI N p 14 (nI v)) := by
  obtain ⟨⟨a0, a1, a2, a3, a4, a5, a6, a7, a8, a9⟩, b, d, e⟩ := h
  refine ⟨⟨a0.sI (by omega), ?_, ?_, ?_, ?_, ?_, ?_, ?_, ?_, ?_⟩, fun l hl => ?_, fun m hm => ?_, fun i hi => ?_⟩
  · rw [gI_sI, if_neg (by omega), st_co (by decide)]; exact a1
  · rw [gI_sI, if_neg (by omega), st_co (by decide)]; exact a2
  · rw [gI_sI, if_neg (by omega), st_co (by decide)]; exact a3
  · rw [gI_sI, if_pos ⟨rfl, rfl⟩, st_at]
  · rw [gI_sI, if_neg (by omega), st_co (by decide)]; exact a5
  · rw [gI_sI, if_neg (by omega), st_ro (by decide)]; exact a6
  · rw [gI_sI, if_neg (by omega), st_co (by decide)]; exact a7
  · rw [gI_sI, if_neg (by omega), st_co (by decide)]; exact a8
  · rw [gI_sI, if_neg (by omega), st_ro (by decide), st_ro (by decide), st_ro (by decide), st_ro (by decide)]; exact a9
  · obtain ⟨x0, x1, x2, x3⟩ := b l hl
    refine ⟨?_, ?_, ?_, ?_⟩
    · rw [st_ro (by decide)]; exact x0
    · rw [gI_sI, if_neg (by omega), st_ro (by decide)]; exact x1
    · rw [gI_sI, if_neg (by omega)]; exact x2
    · rw [gI_sI, if_neg (by omega), st_ro (by decide)]; exact x3
  · obtain ⟨x0, x1, x2⟩ := d m hm
    refine ⟨?_, ?_, ?_⟩
    · rw [st_ro (by decide)]; exact x0
    · rw [gI_sI, if_neg (by omega), st_ro (by decide)]; exact x1
    · rw [gI_sI, if_neg (by omega), st_ro (by decide)]; exact x2
  · rw [gI_sI, if_neg (by omega), st_ro (by decide), st_ro (by decide)]; exact e i hi
theorem PC.gst (hp : p = 8 ∨ p = 23) (h : PC E p N) (v : Nat) : PC (st E 0 4 v) p (sI N p 15 (nI v)) := by
  obtain ⟨⟨a0, a1, a2, a3, a4, a5, a6, a7, a8, a9⟩, b, d, e⟩ := h
  refine ⟨⟨a0.sI (by omega), ?_, ?_, ?_, ?_, ?_, ?_, ?_, ?_, ?_⟩, fun l hl => ?_, fun m hm => ?_, fun i hi => ?_⟩
  · rw [gI_sI, if_neg (by omega), st_co (by decide)]; exact a1
  · rw [gI_sI, if_neg (by omega), st_co (by decide)]; exact a2
  · rw [gI_sI, if_neg (by omega), st_co (by decide)]; exact a3
  · rw [gI_sI, if_neg (by omega), st_co (by decide)]; exact a4
  · rw [gI_sI, if_pos ⟨rfl, rfl⟩, st_at]
  · rw [gI_sI, if_neg (by omega), st_ro (by decide)]; exact a6
  · rw [gI_sI, if_neg (by omega), st_co (by decide)]; exact a7
  · rw [gI_sI, if_neg (by omega), st_co (by decide)]; exact a8
  · rw [gI_sI, if_neg (by omega), st_ro (by decide), st_ro (by decide), st_ro (by decide), st_ro (by decide)]; exact a9
  · obtain ⟨x0, x1, x2, x3⟩ := b l hl
    refine ⟨?_, ?_, ?_, ?_⟩
    · rw [st_ro (by decide)]; exact x0
    · rw [gI_sI, if_neg (by omega), st_ro (by decide)]; exact x1
    · rw [gI_sI, if_neg (by omega)]; exact x2
    · rw [gI_sI, if_neg (by omega), st_ro (by decide)]; exact x3
  · obtain ⟨x0, x1, x2⟩ := d m hm
    refine ⟨?_, ?_, ?_⟩
    · rw [st_ro (by decide)]; exact x0
    · rw [gI_sI, if_neg (by omega), st_ro (by decide)]; exact x1
    · rw [gI_sI, if_neg (by omega), st_ro (by decide)]; exact x2
  · rw [gI_sI, if_neg (by omega), st_ro (by decide), st_ro (by decide)]; exact e i hi
theorem PC.drw (hp : p = 8 ∨ p = 23) (h : PC E p N) (v : Nat) : PC (st E 73 0 v) p (sI N p 16 (nI v)) := by
  obtain ⟨⟨a0, a1, a2, a3, a4, a5, a6, a7, a8, a9⟩, b, d, e⟩ := h
  refine ⟨⟨a0.sI (by omega), ?_, ?_, ?_, ?_, ?_, ?_, ?_, ?_, ?_⟩, fun l hl => ?_, fun m hm => ?_, fun i hi => ?_⟩
  · rw [gI_sI, if_neg (by omega), st_ro (by decide)]; exact a1
  · rw [gI_sI, if_neg (by omega), st_ro (by decide)]; exact a2
  · rw [gI_sI, if_neg (by omega), st_ro (by decide)]; exact a3
  · rw [gI_sI, if_neg (by omega), st_ro (by decide)]; exact a4
  · rw [gI_sI, if_neg (by omega), st_ro (by decide)]; exact a5
  · rw [gI_sI, if_pos ⟨rfl, rfl⟩, st_at]
  · rw [gI_sI, if_neg (by omega), st_ro (by decide)]; exact a7
  · rw [gI_sI, if_neg (by omega), st_ro (by decide)]; exact a8
  · rw [gI_sI, if_neg (by omega), st_ro (by decide), st_ro (by decide), st_ro (by decide), st_ro (by decide)]; exact a9
  · obtain ⟨x0, x1, x2, x3⟩ := b l hl
    refine ⟨?_, ?_, ?_, ?_⟩
    · rw [st_ro (by decide)]; exact x0
    · rw [gI_sI, if_neg (by omega), st_ro (by decide)]; exact x1
    · rw [gI_sI, if_neg (by omega)]; exact x2
    · rw [gI_sI, if_neg (by omega), st_ro (by decide)]; exact x3
  · obtain ⟨x0, x1, x2⟩ := d m hm
    refine ⟨?_, ?_, ?_⟩
    · rw [st_ro (by decide)]; exact x0
    · rw [gI_sI, if_neg (by omega), st_ro (by decide)]; exact x1
    · rw [gI_sI, if_neg (by omega), st_ro (by decide)]; exact x2
  · rw [gI_sI, if_neg (by omega), st_ro (by decide), st_ro (by decide)]; exact e i hi
theorem PC.uni (hp : p = 8 ∨ p = 23) (h : PC E p N) (v : Nat) : PC (st E 0 5 v) p (sI N (p + 9) 4 (nI v)) := by
  obtain ⟨⟨a0, a1, a2, a3, a4, a5, a6, a7, a8, a9⟩, b, d, e⟩ := h
  refine ⟨⟨a0.sI (by omega), ?_, ?_, ?_, ?_, ?_, ?_, ?_, ?_, ?_⟩, fun l hl => ?_, fun m hm => ?_, fun i hi => ?_⟩
  · rw [gI_sI, if_neg (by omega), st_co (by decide)]; exact a1
  · rw [gI_sI, if_neg (by omega), st_co (by decide)]; exact a2
  · rw [gI_sI, if_neg (by omega), st_co (by decide)]; exact a3
  · rw [gI_sI, if_neg (by omega), st_co (by decide)]; exact a4
  · rw [gI_sI, if_neg (by omega), st_co (by decide)]; exact a5
  · rw [gI_sI, if_neg (by omega), st_ro (by decide)]; exact a6
  · rw [gI_sI, if_pos ⟨rfl, rfl⟩, st_at]
  · rw [gI_sI, if_neg (by omega), st_co (by decide)]; exact a8
  · rw [gI_sI, if_neg (by omega), st_ro (by decide), st_ro (by decide), st_ro (by decide), st_ro (by decide)]; exact a9
  · obtain ⟨x0, x1, x2, x3⟩ := b l hl
    refine ⟨?_, ?_, ?_, ?_⟩
    · rw [st_ro (by decide)]; exact x0
    · rw [gI_sI, if_neg (by omega), st_ro (by decide)]; exact x1
    · rw [gI_sI, if_neg (by omega)]; exact x2
    · rw [gI_sI, if_neg (by omega), st_ro (by decide)]; exact x3
  · obtain ⟨x0, x1, x2⟩ := d m hm
    refine ⟨?_, ?_, ?_⟩
    · rw [st_ro (by decide)]; exact x0
    · rw [gI_sI, if_neg (by omega), st_ro (by decide)]; exact x1
    · rw [gI_sI, if_neg (by omega), st_ro (by decide)]; exact x2
  · rw [gI_sI, if_neg (by omega), st_ro (by decide), st_ro (by decide)]; exact e i hi
theorem or_I : ∀ n, n < 8 → ∀ a, a < 2 ^ n → nI a ||| ((1 : Int32) <<< (nI n &&& 31)) = nI (a + 2 ^ n) := by decide +kernel
theorem wC_p {k : Nat} (hk : k ≤ 7 ∨ (9 ≤ k ∧ k ≤ 14)) : wC p (p + k) := by unfold wC; omega
theorem sWat_ok (hz : z ≤ 1600) (hB : ∀ i, i < z → B i < 256) (hp : p = 8 ∨ p = 23) (h : CT (byt B z) N i) (hP : PC E p N) {n : Nat} (hn : n < 8) : ∃ v K, f_Reader_readLamp_j122 (nI n) N = some (v, K) ∧ CO (byt B z) p N (sWat (byt B z) n i E) v K := by
  unfold f_Reader_readLamp_j122 sWat
  rw [h.2.1]
  by_cases e : knd (byt B z) i = 144
  · rw [if_pos ((kndL hz hB i 144 (by decide)).mpr e)]
    obtain ⟨K1, s1, s2, s3, s4, -⟩ := step_co hz hB hp h hP
    obtain ⟨v, K2, r1, r2, r3⟩ := readNumber_ok (most := 99) hz hB hp s2 s3 (by decide)
    rw [s1, bnd_s]
    have r1' : f_Reader_readNumber 99 K1 = some (v, K2) := r1
    rw [r1', bnd_s]
    rcases r3 with ⟨q1, q2, rfl, q4, q5, q6⟩ | ⟨rfl, q2, q3⟩
    · refine ⟨1, sI K2 (p + 2) n (nI (tkD (byt B z) (plc (byt B z) (i + 1)))), ?_, (s4.trans r2).sI (wC_p (by decide)), ?_⟩
      · rw [if_neg (by decide), q5.1.1.1, ckK_eq (kd_p hp), ast_nI hn (by decide), q6]
      · rw [if_pos e]
        unfold sNum
        rw [if_pos q1, if_pos q2]
        exact ⟨rfl, q4.keep (fun c k x => by rw [gI_sI, if_neg (by omega)]) (fun _ _ _ => rfl), q5.watt hp _ _⟩
    · refine ⟨0, K2, by rw [if_pos rfl], ?_⟩
      rw [if_pos e]
      exact (q2 _).from s4
  · refine ⟨1, N, by rw [if_neg (fun q => e ((kndL hz hB i 144 (by decide)).mp q))], FC.rfl', ?_⟩
    rw [if_neg e]
    exact ⟨rfl, h, hP⟩
theorem addL_00 (E : DT) (w : Nat) : addL E w 0 0 = E 0 0 + 1 := rfl
theorem addL_02 (E : DT) (w : Nat) : addL E w 0 2 = E 0 2 := rfl
theorem readLamp_ok (hz : z ≤ 1600) (hB : ∀ i, i < z → B i < 256) (hp : p = 8 ∨ p = 23) (h : CT (byt B z) N i) (hP : PC E p N) (hO : okN E) : ∃ v K, f_Reader_readLamp N = some (v, K) ∧ CO (byt B z) p N (sLamp (byt B z) i E) v K := by
  unfold f_Reader_readLamp sLamp
  rw [hP.1.1.1, ckK_eq (kd_p hp), hP.1.2.1]
  have h88 := hO.1.1
  by_cases h8 : 8 ≤ E 0 0
  · obtain ⟨K, k1, k2⟩ := refuse_ok (p := p) hz hB h 2
    refine ⟨0, K, ?_, by rw [if_pos h8]; exact k2⟩
    rw [nI_lit 8, if_neg (nI_nlt (by omega) (by omega))]
    show bnd (f_Reader_refuse (nI 2) N) _ = _
    rw [k1, bnd_s]
  · rw [nI_lit 8, if_pos (nI_lt (by omega) (by omega)), if_neg h8]
    obtain ⟨K1, s1, s2, s3, s4, -⟩ := step_co hz hB hp h hP
    rw [s1, bnd_s, s2.2.1]
    by_cases e : knd (byt B z) (i + 1) = 2
    · have hw := tkW_v hz (Or.inl e) (knd_lt hz hB (i + 1))
      rw [if_pos ((kndL hz hB (i + 1) 2 (by decide)).mpr e), if_pos e, s3.1.1.1, ckK_eq (kd_p hp), s2.2.2.2.2 e, lampNamed_ok s3 hO hw.1, bnd_s]
      unfold wdf
      cases hf : fdw (E 70) (E 0 0) (tkW (byt B z) (plc (byt B z) (i + 1))) with
      | some l =>
        obtain ⟨f1, f2⟩ := fdw_at hf
        obtain ⟨K, k1, k2⟩ := refuse_ok (p := p) hz hB s2 3
        refine ⟨0, K, ?_, by rw [if_pos (by rfl)]; exact k2.from s4⟩
        show (if nI l < 0 then _ else bnd (f_Reader_refuse (nI 3) K1) _) = _
        rw [if_neg (nI_lt0 (by omega)), k1, bnd_s]
      | none =>
        show ∃ v K, (if (-1 : Int32) < 0 then _ else _) = _ ∧ _
        rw [if_pos (by decide), s3.1.1.1, ckK_eq (kd_p hp), if_neg (by decide), s2.2.2.2.2 e]
        obtain ⟨K2, t1, t2, t3, t4, t5⟩ := addLamp_ok hp s3 (by omega) (tkW (byt B z) (plc (byt B z) (i + 1)))
        have c2 := s2.keep t4 t5
        obtain ⟨K3, u1, u2, u3, u4, -⟩ := step_co hz hB hp c2 t2
        rw [t1, bnd_s, u1, bnd_s, u2.2.1]
        have f3 := (s4.trans t3).trans u4
        by_cases e2 : knd (byt B z) (i + 2) = 140
        · rw [if_pos ((kndL hz hB (i + 2) 140 (by decide)).mpr e2), if_pos e2, u3.1.1.1, ckK_eq (kd_p hp), wI_eq, u3.1.2.2.1, addL_02, or_I _ (by omega) _ hO.1.2.2.1]
          have hP2 := u3.lit hp (E 0 2 + 2 ^ E 0 0)
          have c3 : CT (byt B z) (sI K3 p 1 (nI (E 0 2 + 2 ^ E 0 0))) (i + 2) := u2.keep (fun c k x => by rw [gI_sI, if_neg (by omega)]) (fun _ _ _ => rfl)
          obtain ⟨K4, w1, w2, w3, w4, -⟩ := step_co hz hB hp c3 hP2
          rw [w1, bnd_s]
          obtain ⟨v, K, x1, x2⟩ := sWat_ok hz hB hp w2 w3 (n := E 0 0) (by omega)
          exact ⟨v, K, x1, x2.from ((f3.sI (wC_p (k := 0) (by decide))).trans w4)⟩
        · rw [if_neg (fun q => e2 ((kndL hz hB (i + 2) 140 (by decide)).mp q)), if_neg e2]
          obtain ⟨v, K, x1, x2⟩ := sWat_ok hz hB hp u2 u3 (n := E 0 0) (by omega)
          exact ⟨v, K, x1, x2.from f3⟩
    · obtain ⟨K, k1, k2⟩ := refuse_ok (p := p) hz hB s2 2
      refine ⟨0, K, ?_, by rw [if_neg e]; exact k2.from s4⟩
      rw [if_neg (fun q => e ((kndL hz hB (i + 1) 2 (by decide)).mp q))]
      show bnd (f_Reader_refuse (nI 2) K1) _ = _
      rw [k1, bnd_s]
end RL
