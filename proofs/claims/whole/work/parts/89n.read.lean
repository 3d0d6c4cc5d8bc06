/-! reading: what is told so far, and faults -/
abbrev RSL : Type := (Nat × DT) ⊕ (Nat × Nat)
def flt (f : Nat → Nat) (i k : Nat) : RSL := .inr (if knd f i = 1 then 1 else k, plc f i)
def wC (p c : Nat) : Prop := c = 3 ∨ c = 4 ∨ c = 5 ∨ c = 7 ∨ (p ≤ c ∧ c ≤ p + 14 ∧ c ≠ p + 8)
def FC (p : Nat) (N K : AM) : Prop := (∀ c k, gR K c k = gR N c k) ∧ ∀ c k, ¬ wC p c → gI K c k = gI N c k
theorem FC.rfl' {p : Nat} {N : AM} : FC p N N := ⟨fun _ _ => rfl, fun _ _ _ => rfl⟩
theorem FC.trans {p : Nat} {N K J : AM} (h : FC p N K) (h2 : FC p K J) : FC p N J := ⟨fun c k => (h2.1 c k).trans (h.1 c k), fun c k q => (h2.2 c k q).trans (h.2 c k q)⟩
theorem FC.sI {p : Nat} {N K : AM} (h : FC p N K) {c k : Nat} {v : Int32} (hc : wC p c) : FC p N (sI K c k v) := ⟨h.1, fun a b q => by rw [gI_sI, if_neg (fun e => q (by rw [e.1]; exact hc))]; exact h.2 a b q⟩
theorem FC.sL {p : Nat} {N K : AM} (h : FC p N K) {c k : Nat} {v : Int64} : FC p N (sL K c k v) := ⟨h.1, h.2⟩
theorem F3.fc {p : Nat} {N K : AM} (h : F3 N K) : FC p N K := ⟨h.1, fun c k q => h.2.1 c k (fun e => q (Or.inl e)) (fun e => q (Or.inr (Or.inl e))) (fun e => q (Or.inr (Or.inr (Or.inl e))))⟩
/-- the plan that is told, and no fault yet -/
def NF (p : Nat) (N : AM) : Prop := gR N 7 1 = p ∧ gI N 7 4 = 0 ∧ gI N 7 5 = -1
theorem NF.sI {p : Nat} {N : AM} (h : NF p N) {c k : Nat} {v : Int32} (hc : ¬ (c = 7 ∧ (k = 4 ∨ k = 5))) : NF p (sI N c k v) := ⟨h.1, by rw [gI_sI, if_neg (by omega)]; exact h.2.1, by rw [gI_sI, if_neg (by omega)]; exact h.2.2⟩
def PC (E : DT) (p : Nat) (N : AM) : Prop :=
  (NF p N ∧ gI N p 0 = nI (E 0 0) ∧ gI N p 1 = nI (E 0 2) ∧ gI N p 6 = nI (E 0 1) ∧ gI N p 14 = nI (E 0 3) ∧ gI N p 15 = nI (E 0 4) ∧ gI N p 16 = nI (E 73 0) ∧ gI N (p + 9) 4 = nI (E 0 5) ∧ gI N (p + 9) 1 = nI (E 0 6) ∧ gI N 7 2 = nI (8 * E 72 3 + 16 * E 72 4 + 32 * E 72 5 + 64 * E 72 6)) ∧
  (∀ l, l < E 0 0 → gL N (p + 1) l = lN (c32 (E 70 l)) ∧ gI N (p + 2) l = nI (E 1 l) ∧ gI N (p + 3) l = 0 ∧ gI N (p + 4) l = nI (E 2 l)) ∧
  (∀ c, c < E 0 1 → gL N (p + 5) c = lN (c32 (E 71 c)) ∧ gI N (p + 6) c = nI (E 3 c) ∧ gI N (p + 7) c = nI (E 4 c)) ∧
  ∀ i, i < E 0 6 → gI N (p + 10) i = cstep (E 5 i) (E 6 i)
/-- the dusk told so far -/
def okFm (E : DT) : Prop := E 0 5 ≤ 30 ∧ E 0 6 ≤ 269 ∧ (E 0 6 ≠ 0 → hgt E (E 0 6) = some 1) ∧ ∀ i, i < E 0 6 → okStep (E 5 i) (E 6 i) ∧ ∀ h, hgt E (i + 1) = some h → h ≤ 30
/-- what is told so far is as it can be -/
def okN (E : DT) : Prop := (E 0 0 ≤ 8 ∧ E 0 1 ≤ 8 ∧ E 0 2 < 2 ^ E 0 0 ∧ E 0 3 ≤ 8 ∧ E 0 4 ≤ 100 ∧ E 73 0 ≤ 999 ∧ E 72 3 ≤ 1 ∧ E 72 4 ≤ 1 ∧ E 72 5 ≤ 1 ∧ E 72 6 ≤ 1) ∧
  (∀ l, l < E 0 0 → vwd (E 70 l) ∧ E 1 l ≤ 99 ∧ E 2 l < 2 ^ E 0 0 ∧ (E 2 l).testBit l = false ∧ ∀ l', l' < E 0 0 → E 70 l = E 70 l' → l = l') ∧
  (∀ c, c < E 0 1 → vwd (E 71 c) ∧ E 3 c < 2 ^ E 0 0 ∧ E 4 c ≤ 20) ∧
  (E 72 3 = 0 → E 0 5 = 0 ∧ E 0 6 = 0) ∧ okFm E
theorem PC.keep {E : DT} {p : Nat} {N K : AM} (hp : p = 8 ∨ p = 23) (h : PC E p N) (r : gR K 7 1 = gR N 7 1) (g : ∀ c k, (c = 7 ∧ (k = 2 ∨ k = 4 ∨ k = 5)) ∨ (p ≤ c ∧ c ≤ p + 14) → gI K c k = gI N c k) (l : ∀ c k, c = p + 1 ∨ c = p + 5 → gL K c k = gL N c k) : PC E p K := by
  obtain ⟨⟨a0, a1, a2, a3, a4, a5, a6, a7, a8, a9⟩, b, d, e⟩ := h
  refine ⟨⟨⟨by rw [r]; exact a0.1, by rw [g 7 4 (by omega)]; exact a0.2.1, by rw [g 7 5 (by omega)]; exact a0.2.2⟩, ?_, ?_, ?_, ?_, ?_, ?_, ?_, ?_, by rw [g 7 2 (by omega)]; exact a9⟩, fun x hx => ⟨by rw [l _ _ (Or.inl rfl)]; exact (b x hx).1, ?_, ?_, ?_⟩, fun c hc => ⟨by rw [l _ _ (Or.inr rfl)]; exact (d c hc).1, ?_, ?_⟩, fun i hi => ?_⟩ <;> rw [g _ _ (by omega)]
  · exact a1
  · exact a2
  · exact a3
  · exact a4
  · exact a5
  · exact a6
  · exact a7
  · exact a8
  · exact (b x hx).2.1
  · exact (b x hx).2.2.1
  · exact (b x hx).2.2.2
  · exact (d c hc).2.1
  · exact (d c hc).2.2
  · exact e i hi
theorem PC.f3 {E : DT} {p : Nat} {N K : AM} (hp : p = 8 ∨ p = 23) (h : PC E p N) (hf : F3 N K) : PC E p K :=
  h.keep hp (hf.1 7 1) (fun c k q => hf.2.1 c k (by omega) (by omega) (by omega)) (fun c k q => hf.2.2 c k (by omega) (by omega))
theorem CT.keep {f : Nat → Nat} {N K : AM} {i : Nat} (h : CT f N i) (g : ∀ c k, c = 3 ∨ c = 4 ∨ c = 5 → gI K c k = gI N c k) (l : ∀ c k, c = 3 ∨ c = 6 → gL K c k = gL N c k) : CT f K i := by
  obtain ⟨⟨a1, a2, a3⟩, b1, b2, b3, b4⟩ := h
  refine ⟨⟨by rw [g _ _ (by omega)]; exact a1, fun j hj => ?_, by rw [g _ _ (by omega)]; exact a3⟩, by rw [g _ _ (by omega)]; exact b1, by rw [g _ _ (by omega)]; exact b2, fun x => by rw [l _ _ (by omega)]; exact b3 x, fun x => by rw [l _ _ (by omega)]; exact b4 x⟩
  rw [g 4 j (by omega), g 5 j (by omega), l 6 j (by omega)]
  exact a2 j hj
theorem kd_p {p : Nat} (h : p = 8 ∨ p = 23) : kd0 p = 5 := by
  rcases h with h | h <;> rw [h] <;> decide
section RD
variable {B : Nat → Nat} {z : Nat}
/-- how a part of the class's reading ends -/
def CO (f : Nat → Nat) (p : Nat) (N : AM) (r : RSL) (v : Int32) (K : AM) : Prop := FC p N K ∧ match r with
  | .inl (i, E) => v = 1 ∧ CT f K i ∧ PC E p K
  | .inr (k, pl) => v = 0 ∧ gI K 7 4 = nI k ∧ gI K 7 5 = nI pl
theorem knd1 (hz : z ≤ 1600) (hB : ∀ i, i < z → B i < 256) (i c : Nat) (hc : c < 300) : nI (knd (byt B z) i) = nI c ↔ knd (byt B z) i = c := nI_eq (by have := knd_lt hz hB i; omega) (by omega)
theorem kndL (hz : z ≤ 1600) (hB : ∀ i, i < z → B i < 256) (i c : Nat) (hc : c < 300) : nI (knd (byt B z) i) = (OfNat.ofNat c : Int32) ↔ knd (byt B z) i = c := knd1 hz hB i c hc
theorem refuse_ok {N : AM} {p i : Nat} (hz : z ≤ 1600) (hB : ∀ i, i < z → B i < 256) (h : CT (byt B z) N i) (k : Nat) : ∃ K, f_Reader_refuse (nI k) N = some (0, K) ∧ CO (byt B z) p N (flt (byt B z) i k) 0 K := by
  refine ⟨sI (sI N 7 4 (nI (if knd (byt B z) i = 1 then 1 else k))) 7 5 (nI (plc (byt B z) i)), ?_, (FC.rfl'.sI (Or.inr (Or.inr (Or.inr (Or.inl rfl))))).sI (Or.inr (Or.inr (Or.inr (Or.inl rfl)))), rfl, ?_, ?_⟩
  · unfold f_Reader_refuse f_Reader_refuse_j17
    simp only [wI_eq]
    have e : ∀ w, gI (sI N 7 4 w) 3 7 = nI (plc (byt B z) i) := fun w => by rw [gI_sI, if_neg (by omega)]; exact h.2.2.1
    rw [h.2.1, e, e]
    by_cases x : knd (byt B z) i = 1
    · rw [if_pos ((kndL hz hB i 1 (by decide)).mpr x), if_pos x]; rfl
    · rw [if_neg (fun q => x ((kndL hz hB i 1 (by decide)).mp q)), if_neg x]
  · rw [gI_sI, if_neg (by omega), gI_sI, if_pos ⟨rfl, rfl⟩]
  · rw [gI_sI, if_pos ⟨rfl, rfl⟩]
/-- one token on -/
theorem step_co {N : AM} {E : DT} {p i : Nat} (hz : z ≤ 1600) (hB : ∀ i, i < z → B i < 256) (hp : p = 8 ∨ p = 23) (h : CT (byt B z) N i) (hP : PC E p N) : ∃ K, f_Tokens_step N = some ((), K) ∧ CT (byt B z) K (i + 1) ∧ PC E p K ∧ FC p N K ∧ F3 N K := by
  obtain ⟨K, h1, h2, h3⟩ := step_ok hz hB h
  exact ⟨K, h1, h2, hP.f3 hp h3, h3.fc, h3⟩
def sExp (f : Nat → Nat) (k i : Nat) (E : DT) : RSL := if knd f i = k then .inl (i + 1, E) else flt f i 2
theorem expect_ok {N : AM} {E : DT} {p i k : Nat} (hz : z ≤ 1600) (hB : ∀ i, i < z → B i < 256) (hp : p = 8 ∨ p = 23) (h : CT (byt B z) N i) (hP : PC E p N) (hk : k < 300) : ∃ v K, f_Reader_expect (nI k) N = some (v, K) ∧ CO (byt B z) p N (sExp (byt B z) k i E) v K := by
  unfold f_Reader_expect sExp
  rw [h.2.1]
  by_cases e : knd (byt B z) i = k
  · obtain ⟨K, k1, k2, k3, k4, -⟩ := step_co hz hB hp h hP
    refine ⟨1, K, by rw [if_pos (by rw [e]), k1, bnd_s], k4, ?_⟩
    rw [if_pos e]
    exact ⟨rfl, k2, k3⟩
  · obtain ⟨K, k1, k2⟩ := refuse_ok (p := p) hz hB h 2
    refine ⟨0, K, ?_, ?_⟩
    · rw [if_neg (fun q => e ((knd1 hz hB i k hk).mp q))]
      show bnd (f_Reader_refuse (nI 2) N) _ = _
      rw [k1, bnd_s]
    · rw [if_neg e]; exact k2
/-- a number that is told -/
def sNum (f : Nat → Nat) (most i : Nat) (ok : Nat → RSL) : RSL := if knd f i = 3 then (if tkD f (plc f i) ≤ most then ok (tkD f (plc f i)) else flt f i 4) else flt f i 2
theorem nbk_lt {g : Nat → Nat} : ∀ n, (∀ i, i < n → g i ≤ 57) → nbk g n < 10 ^ n := by
  intro n
  induction n with
  | zero => intro _; show 0 < 1; decide
  | succ n ih =>
    intro h
    have h1 := ih (fun i hi => h i (by omega))
    have h2 := h n (by omega)
    rw [nbk_s, Nat.pow_succ]
    omega
theorem tkD_lt (hz : z ≤ 1600) {i : Nat} (h : knd (byt B z) i = 3) : tkD (byt B z) (plc (byt B z) i) ≤ 9999 := by
  obtain ⟨r1, -, -⟩ := rl_ok (P := dgt) (B := B) hz rfl (plc (byt B z) i)
  generalize byt B z = f at *
  have hd : dgt (f (plc f i)) = true ∧ rl dgt f (plc f i) ≤ 4 := by
    unfold knd tkQ at h
    by_cases a : f (plc f i) = 256
    · rw [if_pos a] at h; omega
    · rw [if_neg a] at h
      by_cases b : ltr (f (plc f i)) = true
      · rw [if_pos b] at h
        split at h
        · omega
        · rcases kwd_cases (tkW f (plc f i)) with e | ⟨k, -, e⟩ <;> omega
      · rw [if_neg b] at h
        by_cases d : dgt (f (plc f i)) = true
        · rw [if_pos d] at h
          split at h
          · omega
          · rename_i x; exact ⟨d, by rcases Nat.lt_or_ge 4 (rl dgt f (plc f i)) with y | y; exact absurd (Or.inl y) x; exact y⟩
        · rw [if_neg d] at h
          split at h
          · have := sgn_ge (by assumption); omega
          · omega
  have h1 := nbk_lt (g := fun t => f (plc f i + t)) (rl dgt f (plc f i)) (fun t ht => (dgt_iff.mp (r1 t ht)).2)
  have h2 : 10 ^ rl dgt f (plc f i) ≤ 10 ^ 4 := Nat.pow_le_pow_right (by decide) hd.2
  unfold tkD
  omega
theorem tkW_v (hz : z ≤ 1600) {i : Nat} (h : knd (byt B z) i = 2 ∨ 128 ≤ knd (byt B z) i) (hs : knd (byt B z) i < 300) : vwd (tkW (byt B z) (plc (byt B z) i)) ∧ knd (byt B z) i = kwd (tkW (byt B z) (plc (byt B z) i)) := by
  obtain ⟨r1, -, -⟩ := rl_ok (P := ltr) (B := B) hz rfl (plc (byt B z) i)
  generalize byt B z = f at *
  unfold knd tkQ at *
  by_cases a : f (plc f i) = 256
  · rw [if_pos a] at h; omega
  · rw [if_neg a] at h ⊢
    by_cases b : ltr (f (plc f i)) = true
    · rw [if_pos b] at h ⊢
      by_cases e : 8 < rl ltr f (plc f i)
      · rw [if_pos e] at h; omega
      · rw [if_neg e]
        exact ⟨⟨_, _, by omega, r1, rfl⟩, rfl⟩
    · rw [if_neg b] at h
      by_cases d : dgt (f (plc f i)) = true
      · rw [if_pos d] at h
        split at h <;> omega
      · rw [if_neg d] at h
        split at h
        · have := sgn_ge (by assumption); omega
        · omega
theorem readNumber_ok {N : AM} {E : DT} {p i most : Nat} (hz : z ≤ 1600) (hB : ∀ i, i < z → B i < 256) (hp : p = 8 ∨ p = 23) (h : CT (byt B z) N i) (hP : PC E p N) (hm : most ≤ 999) : ∃ v K, f_Reader_readNumber (nI most) N = some (v, K) ∧ FC p N K ∧ ((knd (byt B z) i = 3 ∧ tkD (byt B z) (plc (byt B z) i) ≤ most ∧ v = 1 ∧ CT (byt B z) K (i + 1) ∧ PC E p K ∧ gI K 7 3 = nI (tkD (byt B z) (plc (byt B z) i))) ∨ (v = 0 ∧ (∀ ok, CO (byt B z) p N (sNum (byt B z) most i ok) 0 K) ∧ ¬ (knd (byt B z) i = 3 ∧ tkD (byt B z) (plc (byt B z) i) ≤ most))) := by
  unfold f_Reader_readNumber
  rw [h.2.1]
  by_cases e : knd (byt B z) i = 3
  · have hv := tkD_lt hz e
    rw [if_pos (show nI (knd (byt B z) i) = 3 by rw [e]; rfl), h.2.2.2.1 e, nI_l (by omega)]
    by_cases em : tkD (byt B z) (plc (byt B z) i) ≤ most
    · have hw : PC E p (sI N 7 3 (nI (tkD (byt B z) (plc (byt B z) i)))) := hP.keep hp rfl (fun c k q => by rw [gI_sI, if_neg (by omega)]) (fun _ _ _ => rfl)
      have hc : CT (byt B z) (sI N 7 3 (nI (tkD (byt B z) (plc (byt B z) i)))) i := h.keep (fun c k q => by rw [gI_sI, if_neg (by omega)]) (fun _ _ _ => rfl)
      obtain ⟨K, k1, k2, k3, k4, k5⟩ := step_co hz hB hp hc hw
      refine ⟨1, K, ?_, (FC.rfl'.sI (Or.inr (Or.inr (Or.inr (Or.inl rfl))))).trans k4, Or.inl ⟨e, em, rfl, k2, k3, ?_⟩⟩
      · rw [if_pos ((lg_cmp_le _ _).mpr ((lN_le (by omega) (by omega)).mpr em)), wI_eq, lN_i, k1, bnd_s]
      · rw [k5.2.1 7 3 (by decide) (by decide) (by decide), gI_sI, if_pos ⟨rfl, rfl⟩]
    · obtain ⟨K, k1, k2⟩ := refuse_ok (p := p) hz hB h 4
      refine ⟨0, K, ?_, k2.1, Or.inr ⟨rfl, fun ok => ?_, fun q => em q.2⟩⟩
      · rw [if_neg (fun q => em ((lN_le (by omega) (by omega)).mp ((lg_cmp_le _ _).mp q)))]
        show bnd (f_Reader_refuse (nI 4) N) _ = _
        rw [k1, bnd_s]
      · unfold sNum
        rw [if_pos e, if_neg em]; exact k2
  · obtain ⟨K, k1, k2⟩ := refuse_ok (p := p) hz hB h 2
    refine ⟨0, K, ?_, k2.1, Or.inr ⟨rfl, fun ok => ?_, fun q => e q.1⟩⟩
    · rw [if_neg (fun q => e ((kndL hz hB i 3 (by decide)).mp q))]
      show bnd (f_Reader_refuse (nI 2) N) _ = _
      rw [k1, bnd_s]
    · unfold sNum
      rw [if_neg e]; exact k2
end RD
