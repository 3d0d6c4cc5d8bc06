/-! fits, fit, sure, ask -/
theorem p8_lt {j : Nat} (h : j < 8) : 2 ^ j < 256 := Nat.pow_lt_pow_right (a := 2) (by decide) h
def fB (D : DT) (U : Nat → Int32) (k : Int32) (s : Nat) : Bool := ftb D U k (shn D s) (D 9 1)
theorem and_2 {s j : Nat} : s &&& 2 ^ j = 2 ^ j ↔ s.testBit j = true := by
  rw [Nat.and_comm, and_sub]
  constructor
  · intro h; exact h j (by rw [Nat.testBit_two_pow]; simp)
  · intro h i hi
    rw [Nat.testBit_two_pow, decide_eq_true_iff] at hi
    rw [← hi]; exact h
theorem cf00 (D : DT) (U : Nat → Int32) (k : Int32) (n : Nat) : cnt (cfP D U k 0 0) n = cnt (fB D U k) n := cnt_ext n (fun s _ => by unfold cfP fB; simp)
theorem cfc0 (D : DT) (U : Nat → Int32) (k : Int32) (j n : Nat) : cnt (cfP D U k (2 ^ j) 0) n = cnt (fun s => s.testBit j && fB D U k s) n := cnt_ext n (fun s _ => by
  unfold cfP fB
  by_cases q : s.testBit j = true
  · simp [and_2.mpr q, q]
  · have : ¬ s &&& 2 ^ j = 2 ^ j := fun e => q (and_2.mp e)
    simp [this, q])
theorem cf0l (D : DT) (U : Nat → Int32) (k : Int32) (j n : Nat) : cnt (cfP D U k 0 (2 ^ j)) n = cnt (fun s => (shn D s).testBit j && fB D U k s) n := cnt_ext n (fun s _ => by
  unfold cfP fB
  by_cases q : (shn D s).testBit j = true
  · simp [and_2.mpr q, q]
  · have : ¬ shn D s &&& 2 ^ j = 2 ^ j := fun e => q (and_2.mp e)
    simp [this, q])
section FIT
variable {D : DT} {N : AM} {U : Nat → Int32}
theorem Mo_fits_ok (hR : Rel D N) (hU : UT D U N) (k : Int32) : f_Mo_fits k N = some (nI (cnt (fB D U k) (2 ^ D 0 1)), N) := by
  have h256 := p2_le hR.1.2.1
  have hnc := hR.1.2.1
  unfold f_Mo_fits
  have key : f_Mo_fits_l4 k fu 0 0 N = some (nI (cnt (fB D U k) (2 ^ D 0 1)), N) := for_up (fun z (q : Int32 × Int32 × AM) => f_Mo_fits_l4 k z q.1 q.2.1 q.2.2) (fun j => (nI (cnt (fB D U k) j), nI j, N)) (2 ^ D 0 1) _
    (fun j z hj => by
      show f_Mo_fits_b4 (f_Mo_fits_l4 k z) k (nI (cnt (fB D U k) j)) (nI j) N = f_Mo_fits_l4 k z (nI (cnt (fB D U k) (j + 1))) (nI (j + 1)) N
      unfold f_Mo_fits_b4
      rw [hR.2.2.2.2.2.1.1.2.2.1, nx_one _ (by omega), if_neg (nI_ge hj (by omega)), fitsSet_ok hR hU k (by omega), bnd_s, truth_b, bnd_s, nI_1, cnt_s]
      unfold fB
      by_cases q : ftb D U k (shn D j) (D 9 1) = true
      · rw [if_pos q, if_pos q, nI_1]
      · rw [if_neg q, if_neg q, nI_lit 0, nI_add])
    (fun z => by
      show f_Mo_fits_b4 (f_Mo_fits_l4 k z) k (nI (cnt (fB D U k) (2 ^ D 0 1))) (nI (2 ^ D 0 1)) N = _
      unfold f_Mo_fits_b4
      rw [hR.2.2.2.2.2.1.1.2.2.1, nx_one _ (by omega), if_pos (nI_le (Nat.le_refl _) (by omega))]) (2 ^ D 0 1) 0 fu (by omega) (by rw [fu_eq]; omega)
  rw [bnd_eq key]
theorem Mo_sureL (hR : Rel D N) (hU : UT D U N) (k al : Int32) {c : Nat} (hc : c < 8) : f_Mo_sure_l26 (nI c) k al fu 0 0 N = some (nI (cnt (fun s => s.testBit c && fB D U k s) (2 ^ D 0 1)), N) := by
  have h256 := p2_le hR.1.2.1
  have hnc := hR.1.2.1
  generalize hP : (fun s => s.testBit c && fB D U k s) = P
  exact for_up (fun z (q : Int32 × Int32 × AM) => f_Mo_sure_l26 (nI c) k al z q.1 q.2.1 q.2.2) (fun j => (nI (cnt P j), nI j, N)) (2 ^ D 0 1) _
    (fun j z hj => by
      show f_Mo_sure_b26 (f_Mo_sure_l26 (nI c) k al z) (nI c) k al (nI (cnt P j)) (nI j) N = f_Mo_sure_l26 (nI c) k al z (nI (cnt P (j + 1))) (nI (j + 1)) N
      unfold f_Mo_sure_b26 f_Mo_sure_j62 f_Mo_sure_j63
      rw [hR.2.2.2.2.2.1.1.2.2.1, nx_one _ (by omega), if_neg (nI_ge hj (by omega)), has_ok (by omega) (by omega), bnd_s, fitsSet_ok hR hU k (by omega), bnd_s, truth_0, truth_1, bnd_s, bnd_s, nI_1, nI_1, nI_lit 0, nI_add, cnt_s, ← hP]
      unfold fB
      by_cases q1 : j.testBit c = true
      · rw [if_pos q1, if_neg (by decide)]
        by_cases q : ftb D U k (shn D j) (D 9 1) = true
        · rw [if_pos q, if_neg (by decide)]; simp [q1, q]
        · rw [if_neg q, if_pos (by decide)]; simp [q]
      · rw [if_neg q1, if_pos (by decide)]; simp [q1])
    (fun z => by
      show f_Mo_sure_b26 (f_Mo_sure_l26 (nI c) k al z) (nI c) k al (nI (cnt P (2 ^ D 0 1))) (nI (2 ^ D 0 1)) N = _
      unfold f_Mo_sure_b26
      rw [hR.2.2.2.2.2.1.1.2.2.1, nx_one _ (by omega), if_pos (nI_le (Nat.le_refl _) (by omega))]) (2 ^ D 0 1) 0 fu (by omega) (by rw [fu_eq]; omega)
theorem Mo_leftL (hR : Rel D N) (hU : UT D U N) (k al : Int32) {c : Nat} (hc : c < 8) : f_Mo_leftBy_l6 (nI c) al k fu 0 0 N = some (nI (cnt (fun s => (shn D s).testBit c && fB D U k s) (2 ^ D 0 1)), N) := by
  have h256 := p2_le hR.1.2.1
  have hnc := hR.1.2.1
  generalize hP : (fun s => (shn D s).testBit c && fB D U k s) = P
  exact for_up (fun z (q : Int32 × Int32 × AM) => f_Mo_leftBy_l6 (nI c) al k z q.1 q.2.1 q.2.2) (fun j => (nI (cnt P j), nI j, N)) (2 ^ D 0 1) _
    (fun j z hj => by
      show f_Mo_leftBy_b6 (f_Mo_leftBy_l6 (nI c) al k z) (nI c) al k (nI (cnt P j)) (nI j) N = f_Mo_leftBy_l6 (nI c) al k z (nI (cnt P (j + 1))) (nI (j + 1)) N
      have hsh := shn_lt hR.1 j
      unfold f_Mo_leftBy_b6 f_Mo_leftBy_j51 f_Mo_leftBy_j52
      rw [hR.2.2.2.2.2.1.1.2.2.1, nx_one _ (by omega), if_neg (nI_ge hj (by omega)), turnedBy_ok hR (by omega), bnd_s, hR.2.2.2.2.2.1.1.2.1, nx_xor]
      show bnd (f_Mo_has (nI (shn D j)) (nI c) N) _ = _
      rw [has_ok (by omega) (by omega), bnd_s, fitsSet_ok hR hU k (by omega), bnd_s, truth_0, truth_1, bnd_s, bnd_s, nI_1, nI_1, nI_lit 0, nI_add, cnt_s, ← hP]
      unfold fB
      by_cases q1 : (shn D j).testBit c = true
      · rw [if_pos q1, if_neg (by decide)]
        by_cases q : ftb D U k (shn D j) (D 9 1) = true
        · rw [if_pos q, if_neg (by decide)]; simp [q1, q]
        · rw [if_neg q, if_pos (by decide)]; simp [q]
      · rw [if_neg q1, if_pos (by decide)]; simp [q1])
    (fun z => by
      show f_Mo_leftBy_b6 (f_Mo_leftBy_l6 (nI c) al k z) (nI c) al k (nI (cnt P (2 ^ D 0 1))) (nI (2 ^ D 0 1)) N = _
      unfold f_Mo_leftBy_b6
      rw [hR.2.2.2.2.2.1.1.2.2.1, nx_one _ (by omega), if_pos (nI_le (Nat.le_refl _) (by omega))]) (2 ^ D 0 1) 0 fu (by omega) (by rw [fu_eq]; omega)
end FIT
theorem B_fits (k : Int32) : Both (f_C_fits k) (f_Mo_fits k) := by
  refine Both.ask fun D M h => ?_
  have hU : UT D (fun i => gI M 134 i) M := fun i _ => rfl
  refine ⟨nI (cnt (fB D (fun i => gI M 134 i) k) (2 ^ D 0 1)), ?_, fun M1 hs => ⟨M1, Mo_fits_ok (h.sm hs) (hU.sm hs) k, Sm.rfl'⟩⟩
  obtain ⟨M1, k1, k2, k3⟩ := recall_ok h hU k
  have hR := h.sm k2
  refine ⟨M1, ?_, k2⟩
  unfold f_C_fits
  have := countFitting_ok hR k3 (c := 0) (l := 0) (by decide) (by decide)
  rw [nI_0] at this
  rw [k1, bnd_s, ckK_eq (pl_kd hR), this, bnd_s, cf00]
/-- the first set that fits -/
def ffs (P : Nat → Bool) : Nat → Nat → Option Nat
  | 0, _ => none
  | r + 1, k => if P k = true then some k else ffs P r (k + 1)
def opI : Option Nat → Int32
  | none => -1
  | some m => nI m
theorem ffs_s (P : Nat → Bool) (r k : Nat) : ffs P (r + 1) k = if P k = true then some k else ffs P r (k + 1) := rfl
/-- a loop that returns the first that fits -/
theorem first_loop {M : AM} (L : Nat → Int32 → AM → Option ((Unit × AM) ⊕ (Int32 × AM))) (P : Nat → Bool) (n : Nat) (hn : n < 100000)
    (step : ∀ k z, k < n → L (z + 1) (nI k) M = if P k = true then some (.inr (nI k, M)) else L z (nI (k + 1)) M)
    (stop : ∀ z, L (z + 1) (nI n) M = some (.inl ((), M))) : bn2 (L fu (nI 0) M) (fun _ M2 => some ((-1), M2)) = some (opI (ffs P n 0), M) := by
  have key : ∃ o, L fu (nI 0) M = some o ∧ (bn2 (some o) (fun _ M2 => some ((-1), M2)) = some (opI (ffs P n 0), M)) := by
    refine for_inv (fun z (s : Int32 × AM) => L z s.1 s.2) (fun k s => s = (nI k, M) ∧ ffs P n 0 = ffs P (n - k) k) n _ (fun k s z hk hI => ?_) (fun s z hI => ?_) n 0 (nI 0, M) fu (by omega) (by rw [fu_eq]; omega) ⟨rfl, rfl⟩
    · obtain ⟨rfl, i1⟩ := hI
      have e : ffs P (n - k) k = if P k = true then some k else ffs P (n - (k + 1)) (k + 1) := by
        rw [show n - k = (n - (k + 1)) + 1 by omega, ffs_s]
      by_cases hp : P k = true
      · right
        refine ⟨.inr (nI k, M), ?_, ?_⟩
        · show L (z + 1) (nI k) M = _
          rw [step k z hk, if_pos hp]
        · rw [bn2_r, i1, e, if_pos hp]; rfl
      · left
        refine ⟨(nI (k + 1), M), ⟨rfl, by rw [i1, e, if_neg hp]⟩, ?_⟩
        show L (z + 1) (nI k) M = _
        rw [step k z hk, if_neg hp]
    · obtain ⟨rfl, i1⟩ := hI
      refine ⟨.inl ((), M), stop z, ?_⟩
      rw [bn2_l, i1, Nat.sub_self]
      rfl
  obtain ⟨o, k1, k2⟩ := key
  rw [k1, k2]
theorem B_fit (k : Int32) : Both (f_C_fit k) (f_Mo_fit k) := by
  refine Both.ask fun D M h => ?_
  have hU : UT D (fun i => gI M 134 i) M := fun i _ => rfl
  have h256 := p2_le h.1.2.1
  have h0 := p2_pos (D 0 1)
  refine ⟨opI (ffs (fB D (fun i => gI M 134 i) k) (2 ^ D 0 1) 0), ?_, fun M1 hs => ⟨M1, ?_, Sm.rfl'⟩⟩
  · obtain ⟨M1, k1, k2, k3⟩ := recall_ok h hU k
    have hR := h.sm k2
    refine ⟨M1, ?_, k2⟩
    unfold f_C_fit f_Sight_firstFitting
    have hac := allCords_ok hR
    have hfit := fun s (hs : s < 2 ^ D 0 1) => isFitting_ok hR k3 hs
    rw [k1, bnd_s, ckK_eq (pl_kd hR)]
    generalize gR M1 0 3 = p at *
    have := first_loop (M := M1) (f_Sight_firstFitting_l2 p) (fB D (fun i => gI M 134 i) k) (2 ^ D 0 1) (by omega)
      (fun j z hj => by
        show f_Sight_firstFitting_b2 (f_Sight_firstFitting_l2 p z) p (nI j) M1 = _
        unfold f_Sight_firstFitting_b2 fB
        rw [hac, bnd_s, if_neg (sets_go (by omega) hj), hfit j hj, bnd_s, nI_1]
        by_cases q : ftb D (fun i => gI M 134 i) k (shn D j) (D 9 1) = true
        · rw [if_pos q, if_neg (by decide), if_pos q]
        · rw [if_neg q, if_pos rfl, if_neg q])
      (fun z => by
        show f_Sight_firstFitting_b2 (f_Sight_firstFitting_l2 p z) p (nI (2 ^ D 0 1)) M1 = _
        unfold f_Sight_firstFitting_b2
        rw [hac, bnd_s, if_pos (sets_stop (by omega) h0)])
    rw [nI_0] at this
    rw [this, bnd_s]
  · have hR := h.sm hs
    have hU1 := hU.sm hs
    have hnc := hR.1.2.1
    unfold f_Mo_fit
    have := first_loop (M := M1) (f_Mo_fit_l2 k) (fB D (fun i => gI M 134 i) k) (2 ^ D 0 1) (by omega)
      (fun j z hj => by
        show f_Mo_fit_b2 (f_Mo_fit_l2 k z) k (nI j) M1 = _
        unfold f_Mo_fit_b2 fB
        rw [hR.2.2.2.2.2.1.1.2.2.1, nx_one _ (by omega), if_neg (nI_ge hj (by omega)), fitsSet_ok hR hU1 k (by omega), bnd_s, nI_1]
        by_cases q : ftb D (fun i => gI M 134 i) k (shn D j) (D 9 1) = true
        · rw [if_pos q, if_neg (by decide), if_pos q]
        · rw [if_neg q, if_pos rfl, if_neg q])
      (fun z => by
        show f_Mo_fit_b2 (f_Mo_fit_l2 k z) k (nI (2 ^ D 0 1)) M1 = _
        unfold f_Mo_fit_b2
        rw [hR.2.2.2.2.2.1.1.2.2.1, nx_one _ (by omega), if_pos (nI_le (Nat.le_refl _) (by omega))])
    rw [nI_0] at this
    exact this
theorem cnt_sub {P Q : Nat → Bool} : ∀ n, cnt (fun s => Q s && P s) n ≤ cnt P n := by
  intro n
  induction n with
  | zero => exact Nat.le_refl _
  | succ n ih =>
    rw [cnt_s, cnt_s]
    cases hq : Q n <;> cases hp : P n <;> simp <;> omega
theorem B_sure (a k : Int32) : Both (f_C_sure a k) (f_Mo_sure a k) := by
  refine Both.ask fun D M h => ?_
  have hU : UT D (fun i => gI M 134 i) M := fun i _ => rfl
  have h256 := p2_le h.1.2.1
  have hnc := h.1.2.1
  rcases in_cases a (D 0 1) (by omega) with ⟨j, hj, rfl⟩ | ho
  · have hall := cnt_le (fB D (fun i => gI M 134 i) k) (2 ^ D 0 1)
    have hhav := cnt_le (fun s => s.testBit j && fB D (fun i => gI M 134 i) k s) (2 ^ D 0 1)
    refine ⟨if nI (cnt (fB D (fun i => gI M 134 i) k) (2 ^ D 0 1)) = 0 then -1 else if nI (cnt (fun s => s.testBit j && fB D (fun i => gI M 134 i) k s) (2 ^ D 0 1)) = nI (cnt (fB D (fun i => gI M 134 i) k) (2 ^ D 0 1)) then 1 else if nI (cnt (fun s => s.testBit j && fB D (fun i => gI M 134 i) k s) (2 ^ D 0 1)) = 0 then 0 else -2, ?_, fun M1 hs => ⟨M1, ?_, Sm.rfl'⟩⟩
    · obtain ⟨M1, k1, k2, k3⟩ := recall_ok h hU k
      have hR := h.sm k2
      refine ⟨M1, ?_, k2⟩
      unfold f_C_sure f_Sight_certainty
      have c0 := countFitting_ok hR k3 (c := 0) (l := 0) (by decide) (by decide)
      have c1 := countFitting_ok hR k3 (c := 2 ^ j) (l := 0) (p8_lt (by omega)) (by decide)
      rw [nI_0, cf00] at c0
      rw [nI_0, cfc0] at c1
      rw [ckK_eq (pl_kd h), hasCord_in h hj, bnd_s, if_neg (by decide), k1, bnd_s, ckK_eq (pl_kd hR), c0, bnd_s, nx_one j (by omega), c1, bnd_s]
      by_cases q1 : nI (cnt (fB D (fun i => gI M 134 i) k) (2 ^ D 0 1)) = 0
      · rw [if_pos q1, if_pos q1]; rfl
      · rw [if_neg q1, if_neg q1]
        by_cases q2 : nI (cnt (fun s => s.testBit j && fB D (fun i => gI M 134 i) k s) (2 ^ D 0 1)) = nI (cnt (fB D (fun i => gI M 134 i) k) (2 ^ D 0 1))
        · rw [if_pos q2, if_pos q2]; rfl
        · rw [if_neg q2, if_neg q2]
          by_cases q3 : nI (cnt (fun s => s.testBit j && fB D (fun i => gI M 134 i) k s) (2 ^ D 0 1)) = 0
          · rw [if_pos q3, if_pos q3]; rfl
          · rw [if_neg q3, if_neg q3]; rfl
    · have hR := h.sm hs
      have hU1 := hU.sm hs
      unfold f_Mo_sure
      rw [Mo_fits_ok hR hU1, bnd_s, isCord_in hR hj, bnd_s, if_neg (by decide), Mo_sureL hR hU1 k _ (by omega), bnd_s]
      by_cases q1 : nI (cnt (fB D (fun i => gI M 134 i) k) (2 ^ D 0 1)) = 0
      · rw [if_pos q1, if_pos q1]
      · rw [if_neg q1, if_neg q1]
        by_cases q2 : nI (cnt (fun s => s.testBit j && fB D (fun i => gI M 134 i) k s) (2 ^ D 0 1)) = nI (cnt (fB D (fun i => gI M 134 i) k) (2 ^ D 0 1))
        · rw [if_pos q2, if_pos q2]
        · rw [if_neg q2, if_neg q2]
          by_cases q3 : nI (cnt (fun s => s.testBit j && fB D (fun i => gI M 134 i) k s) (2 ^ D 0 1)) = 0
          · rw [if_pos q3, if_pos q3]
          · rw [if_neg q3, if_neg q3]
  · refine ⟨-1, ⟨M, ?_, Sm.rfl'⟩, fun M1 hs => ⟨M1, ?_, Sm.rfl'⟩⟩
    · unfold f_C_sure
      rw [ckK_eq (pl_kd h), hasCord_out h ho, bnd_s, if_pos rfl]
    · unfold f_Mo_sure
      rw [Mo_fits_ok (h.sm hs) (hU.sm hs), bnd_s, isCord_out (h.sm hs) ho, bnd_s, if_pos rfl]
/-- how many would be left at the most by a look at a lamp -/
def lfb (D : DT) (U : Nat → Int32) (k : Int32) (l : Nat) : Nat := max (cnt (fun s => (shn D s).testBit l && fB D U k s) (2 ^ D 0 1)) (cnt (fB D U k) (2 ^ D 0 1) - cnt (fun s => (shn D s).testBit l && fB D U k s) (2 ^ D 0 1))
def bqs (f : Nat → Nat) : Nat → Nat
  | 0 => 0
  | k + 1 => if f k < f (bqs f k) then k else bqs f k
theorem bqs_s (f : Nat → Nat) (k : Nat) : bqs f (k + 1) = if f k < f (bqs f k) then k else bqs f k := rfl
theorem bqs_le (f : Nat → Nat) : ∀ k, bqs f k ≤ k := by
  intro k
  induction k with
  | zero => exact Nat.le_refl _
  | succ k ih => rw [bqs_s]; split <;> omega
theorem bqs_lt (f : Nat → Nat) (k : Nat) (h : 0 < k) : bqs f k < k := by
  obtain ⟨j, rfl⟩ : ∃ j, k = j + 1 := ⟨k - 1, by omega⟩
  have := bqs_le f j
  rw [bqs_s]
  split <;> omega
theorem bqs_1 (f : Nat → Nat) : bqs f 1 = 0 := by rw [bqs_s]; split <;> rfl
theorem lfb_le (D : DT) (U : Nat → Int32) (k : Int32) (l : Nat) (h : D 0 1 ≤ 8) : lfb D U k l ≤ 256 := by
  have h256 := p2_le h
  have h1 := cnt_le (fB D U k) (2 ^ D 0 1)
  have h2 := cnt_sub (P := fB D U k) (Q := fun s => (shn D s).testBit l) (2 ^ D 0 1)
  unfold lfb
  omega
theorem leftBy_ok {D : DT} {N : AM} {U : Nat → Int32} (hR : Rel D N) (hU : UT D U N) (k : Int32) {c : Nat} (hc : c < 8) : f_Mo_leftBy (nI c) (nI (cnt (fB D U k) (2 ^ D 0 1))) k N = some (nI (lfb D U k c), N) := by
  have h256 := p2_le hR.1.2.1
  have h1 := cnt_le (fB D U k) (2 ^ D 0 1)
  have h2 := cnt_sub (P := fB D U k) (Q := fun s => (shn D s).testBit c) (2 ^ D 0 1)
  unfold f_Mo_leftBy f_Mo_greater lfb
  rw [Mo_leftL hR hU k _ hc, bnd_s, pk_sub h2]
  by_cases q : cnt (fun s => (shn D s).testBit c && fB D U k s) (2 ^ D 0 1) ≤ cnt (fB D U k) (2 ^ D 0 1) - cnt (fun s => (shn D s).testBit c && fB D U k s) (2 ^ D 0 1)
  · rw [if_pos (nI_le q (by omega)), bnd_s, Nat.max_eq_right q]
  · rw [if_neg (nI_ge (by omega) (by omega)), bnd_s, Nat.max_eq_left (by omega)]
theorem bestQuestion_ok {D : DT} {M : AM} {U : Nat → Int32} {k : Int32} (hR : Rel D M) (hF : FT D U k M) : ∃ M1, Sm M M1 ∧ f_Sight_bestQuestion (gR M 0 3) M = some (if cnt (fB D U k) (2 ^ D 0 1) = 0 ∨ D 0 0 = 0 then -1 else nI (bqs (lfb D U k) (D 0 0)), M1) ∧ (¬ (cnt (fB D U k) (2 ^ D 0 1) = 0 ∨ D 0 0 = 0) → gI M1 99 8 = nI (lfb D U k (bqs (lfb D U k) (D 0 0)))) := by
  have h256 := p2_le hR.1.2.1
  have hnl := hR.1.1
  have hall := cnt_le (fB D U k) (2 ^ D 0 1)
  have c0 := countFitting_ok hR hF (c := 0) (l := 0) (by decide) (by decide)
  rw [nI_0, cf00] at c0
  have hcf : ∀ N, Sm M N → (∀ j, j ≠ 8 → gI N 99 j = gI M 99 j) → ∀ l, l < 8 → f_Sight_countFitting (gR M 0 3) 0 (nI (2 ^ l)) N = some (nI (cnt (fun s => (shn D s).testBit l && fB D U k s) (2 ^ D 0 1)), N) ∧ gI N (gR M 0 3) 0 = nI (D 0 0) := fun N hN h9 l hl => by
    have hRN := hR.sm hN
    have hFN : FT D U k N := ⟨by rw [h9 4 (by decide)]; exact hF.1, by rw [h9 5 (by decide)]; exact hF.2⟩
    have := countFitting_ok hRN hFN (c := 0) (l := 2 ^ l) (by decide) (p8_lt (by omega))
    rw [cf0l, hN.1 0 3, nI_0] at this
    refine ⟨this, ?_⟩
    rw [← hN.1 0 3]; exact hRN.2.2.2.1.1.1
  unfold f_Sight_bestQuestion
  rw [c0, bnd_s, wI_eq]
  have s0 : Sm M (sI M 99 8 (nI (cnt (fB D U k) (2 ^ D 0 1)))) := Sm.rfl'.sI scr99.2.2
  have n0 : ∀ j, j ≠ 8 → gI (sI M 99 8 (nI (cnt (fB D U k) (2 ^ D 0 1)))) 99 j = gI M 99 j := fun j hj => by rw [gI_sI, if_neg (by omega)]
  generalize gR M 0 3 = p at *
  by_cases ha : cnt (fB D U k) (2 ^ D 0 1) = 0 ∨ D 0 0 = 0
  · refine ⟨_, s0, ?_, fun q => absurd ha q⟩
    rw [if_pos ha]
    obtain ⟨z, hz⟩ : ∃ z, fu = z + 1 := ⟨999999, fu_eq⟩
    have e : f_Sight_bestQuestion_l18 p (nI (cnt (fB D U k) (2 ^ D 0 1))) fu (-1) 0 (sI M 99 8 (nI (cnt (fB D U k) (2 ^ D 0 1)))) = some (-1, sI M 99 8 (nI (cnt (fB D U k) (2 ^ D 0 1)))) := by
      rw [hz]
      show f_Sight_bestQuestion_b18 _ p _ (-1) (nI 0) _ = _
      unfold f_Sight_bestQuestion_b18
      rw [(hcf _ s0 n0 0 (by decide)).2]
      rcases ha with ha | ha
      · rw [ha]
        by_cases hl : nI (D 0 0) ≤ nI 0
        · rw [if_pos hl]
        · rw [if_neg hl, if_pos (by decide)]
      · rw [ha, if_pos (by decide)]
    rw [e, bnd_s]
  · have hpos : 0 < cnt (fB D U k) (2 ^ D 0 1) := by omega
    have hlp : 0 < D 0 0 := by omega
    have key : ∃ o, f_Sight_bestQuestion_l18 p (nI (cnt (fB D U k) (2 ^ D 0 1))) fu (-1) 0 (sI M 99 8 (nI (cnt (fB D U k) (2 ^ D 0 1)))) = some o ∧ (o.1 = nI (bqs (lfb D U k) (D 0 0)) ∧ Sm M o.2 ∧ gI o.2 99 8 = nI (lfb D U k (bqs (lfb D U k) (D 0 0)))) := by
      refine for_inv (fun z (s : Int32 × Int32 × AM) => f_Sight_bestQuestion_l18 p (nI (cnt (fB D U k) (2 ^ D 0 1))) z s.1 s.2.1 s.2.2) (fun j s => s.2.1 = nI j ∧ Sm M s.2.2 ∧ (∀ i, i ≠ 8 → gI s.2.2 99 i = gI M 99 i) ∧ (j = 0 → s.1 = -1) ∧ (0 < j → s.1 = nI (bqs (lfb D U k) j) ∧ gI s.2.2 99 8 = nI (lfb D U k (bqs (lfb D U k) j)))) (D 0 0) _ (fun j s z hj hI => ?_) (fun s z hI => ?_) (D 0 0) 0 (-1, 0, _) fu (by omega) (by rw [fu_eq]; omega) ⟨rfl, s0, n0, fun _ => rfl, fun q => by omega⟩
      · obtain ⟨v1, v2, N⟩ := s
        obtain ⟨rfl, i1, i2, i3, i4⟩ := hI
        simp only at i1 i2 i3 i4
        left
        obtain ⟨w1, w2⟩ := hcf N i1 i2 j (by omega)
        have hsub := cnt_sub (P := fB D U k) (Q := fun s => (shn D s).testBit j) (2 ^ D 0 1)
        have hlf : (if nI (cnt (fun s => (shn D s).testBit j && fB D U k s) (2 ^ D 0 1)) < nI (cnt (fB D U k) (2 ^ D 0 1)) - nI (cnt (fun s => (shn D s).testBit j && fB D U k s) (2 ^ D 0 1)) then nI (cnt (fB D U k) (2 ^ D 0 1)) - nI (cnt (fun s => (shn D s).testBit j && fB D U k s) (2 ^ D 0 1)) else nI (cnt (fun s => (shn D s).testBit j && fB D U k s) (2 ^ D 0 1))) = nI (lfb D U k j) := by
          unfold lfb
          rw [pk_sub hsub]
          by_cases q : cnt (fun s => (shn D s).testBit j && fB D U k s) (2 ^ D 0 1) < cnt (fB D U k) (2 ^ D 0 1) - cnt (fun s => (shn D s).testBit j && fB D U k s) (2 ^ D 0 1)
          · rw [if_pos (nI_lt q (by omega)), Nat.max_eq_right (by omega)]
          · rw [if_neg (nI_nlt (by omega) (by omega)), Nat.max_eq_left (by omega)]
        have hb : f_Sight_bestQuestion_l18 p (nI (cnt (fB D U k) (2 ^ D 0 1))) (z + 1) v1 (nI j) N = if v1 < 0 then f_Sight_bestQuestion_l18 p (nI (cnt (fB D U k) (2 ^ D 0 1))) z (nI j) (nI (j + 1)) (sI N 99 8 (nI (lfb D U k j))) else if gI N 99 8 ≤ nI (lfb D U k j) then f_Sight_bestQuestion_l18 p (nI (cnt (fB D U k) (2 ^ D 0 1))) z v1 (nI (j + 1)) N else f_Sight_bestQuestion_l18 p (nI (cnt (fB D U k) (2 ^ D 0 1))) z (nI j) (nI (j + 1)) (sI N 99 8 (nI (lfb D U k j))) := by
          show f_Sight_bestQuestion_b18 _ p _ v1 (nI j) N = _
          unfold f_Sight_bestQuestion_b18 f_Sight_bestQuestion_j67
          rw [w2, if_neg (nI_ge hj (by omega)), if_neg (nI_nle hpos (by omega)), nx_one j (by omega), w1, bnd_s, hlf, nI_1]
          rfl
        have hw : Sm M (sI N 99 8 (nI (lfb D U k j))) := i1.sI scr99.2.2
        have hn : ∀ i, i ≠ 8 → gI (sI N 99 8 (nI (lfb D U k j))) 99 i = gI M 99 i := fun i hi => by rw [gI_sI, if_neg (by omega)]; exact i2 i hi
        have l1 := lfb_le D U k j hR.1.2.1
        by_cases hj0 : j = 0
        · subst hj0
          refine ⟨(nI 0, nI (0 + 1), sI N 99 8 (nI (lfb D U k 0))), ⟨rfl, hw, hn, fun q => by omega, fun _ => ⟨by rw [bqs_1], ?_⟩⟩, ?_⟩
          · show gI (sI _ _ _ _) 99 8 = _
            rw [gI_sI, if_pos ⟨rfl, rfl⟩, bqs_1]
          · show f_Sight_bestQuestion_l18 p _ (z + 1) v1 (nI 0) N = _
            rw [hb, i3 rfl, if_pos (by decide)]
        · obtain ⟨i5, i6⟩ := i4 (by omega)
          have l2 := lfb_le D U k (bqs (lfb D U k) j) hR.1.2.1
          have l3 := bqs_lt (lfb D U k) j (by omega)
          by_cases q : lfb D U k j < lfb D U k (bqs (lfb D U k) j)
          · have e : bqs (lfb D U k) (j + 1) = j := by rw [bqs_s, if_pos q]
            refine ⟨(nI j, nI (j + 1), sI N 99 8 (nI (lfb D U k j))), ⟨rfl, hw, hn, fun q => by omega, fun _ => ⟨by rw [e], ?_⟩⟩, ?_⟩
            · show gI (sI _ _ _ _) 99 8 = _
              rw [gI_sI, if_pos ⟨rfl, rfl⟩, e]
            · show f_Sight_bestQuestion_l18 p _ (z + 1) v1 (nI j) N = _
              rw [hb, i5, if_neg (nI_pos (by omega)), i6, if_neg (nI_ge q (by omega))]
          · have e : bqs (lfb D U k) (j + 1) = bqs (lfb D U k) j := by rw [bqs_s, if_neg q]
            refine ⟨(v1, nI (j + 1), N), ⟨rfl, i1, i2, fun q => by omega, fun _ => ⟨by rw [e]; exact i5, by rw [e]; exact i6⟩⟩, ?_⟩
            show f_Sight_bestQuestion_l18 p _ (z + 1) v1 (nI j) N = _
            rw [hb, i5, if_neg (nI_pos (by omega)), i6, if_pos (nI_le (by omega) (by omega))]
      · obtain ⟨v1, v2, N⟩ := s
        obtain ⟨rfl, i1, i2, i3, i4⟩ := hI
        simp only at i1 i2 i3 i4
        obtain ⟨i5, i6⟩ := i4 hlp
        refine ⟨(v1, N), ?_, i5, i1, i6⟩
        show f_Sight_bestQuestion_b18 _ p _ v1 (nI (D 0 0)) N = _
        unfold f_Sight_bestQuestion_b18
        rw [(hcf N i1 i2 0 (by decide)).2, if_pos (nI_le (Nat.le_refl _) (by omega))]
    obtain ⟨⟨v, N⟩, e1, e2, e3, e4⟩ := key
    simp only at e2
    refine ⟨N, e3, ?_, fun _ => e4⟩
    rw [e1, bnd_s, if_neg ha, e2]
theorem B_ask (a k : Int32) : Both (f_C_ask a k) (f_Mo_ask a k) := by
  refine Both.ask fun D M h => ?_
  have hU : UT D (fun i => gI M 134 i) M := fun i _ => rfl
  have h256 := p2_le h.1.2.1
  have hnl := h.1.1
  have hall := cnt_le (fB D (fun i => gI M 134 i) k) (2 ^ D 0 1)
  refine ⟨if cnt (fB D (fun i => gI M 134 i) k) (2 ^ D 0 1) = 0 ∨ D 0 0 = 0 then -1 else if a = 0 then nI (bqs (lfb D (fun i => gI M 134 i) k) (D 0 0)) else if a = 1 then nI (lfb D (fun i => gI M 134 i) k (bqs (lfb D (fun i => gI M 134 i) k) (D 0 0))) else -1, ?_, fun M1 hs => ⟨M1, ?_, Sm.rfl'⟩⟩
  · obtain ⟨M1, k1, k2, k3⟩ := recall_ok h hU k
    have hR := h.sm k2
    obtain ⟨M2, q1, q2, q3⟩ := bestQuestion_ok hR k3
    refine ⟨M2, ?_, k2.trans q1⟩
    unfold f_C_ask
    rw [k1, bnd_s, ckK_eq (pl_kd hR), q2, bnd_s]
    by_cases ha : cnt (fB D (fun i => gI M 134 i) k) (2 ^ D 0 1) = 0 ∨ D 0 0 = 0
    · rw [if_pos ha, if_pos ha, if_neg (by decide)]
    · have l3 := bqs_lt (lfb D (fun i => gI M 134 i) k) (D 0 0) (by omega)
      rw [if_neg ha, if_neg ha, if_pos (nI_pos' (by omega)), either_eq, bnd_s, q3 ha]
  · have hR := h.sm hs
    have hU1 := hU.sm hs
    unfold f_Mo_ask
    rw [Mo_fits_ok hR hU1, bnd_s, isIn01, bnd_s]
    by_cases h01 : a = 0 ∨ a = 1
    · rw [if_pos h01, if_neg (by decide), hR.2.2.2.2.2.1.1.1]
      by_cases ha : cnt (fB D (fun i => gI M 134 i) k) (2 ^ D 0 1) = 0
      · rw [if_pos (by rw [ha]; rfl), if_pos (Or.inl ha)]
      · rw [if_neg (nI_ne0 (by omega) (by omega))]
        by_cases hl : D 0 0 = 0
        · rw [if_pos (by rw [hl]; rfl), if_pos (Or.inr hl)]
        · rw [if_neg (nI_ne0 (by omega) (by omega)), if_neg (fun q => q.elim ha hl)]
          have key : f_Mo_ask_l34 a k (nI (cnt (fB D (fun i => gI M 134 i) k) (2 ^ D 0 1))) fu 0 1 M1 = some (nI (bqs (lfb D (fun i => gI M 134 i) k) (D 0 0)), M1) := by
            have := for_up (fun z (q : Int32 × Int32 × AM) => f_Mo_ask_l34 a k (nI (cnt (fB D (fun i => gI M 134 i) k) (2 ^ D 0 1))) z q.1 q.2.1 q.2.2) (fun j => (nI (bqs (lfb D (fun i => gI M 134 i) k) (j + 1)), nI (j + 1), M1)) (D 0 0 - 1) (nI (bqs (lfb D (fun i => gI M 134 i) k) (D 0 0)), M1)
              (fun j z hj => by
                have l1 := lfb_le D (fun i => gI M 134 i) k (j + 1) hR.1.2.1
                have l2 := lfb_le D (fun i => gI M 134 i) k (bqs (lfb D (fun i => gI M 134 i) k) (j + 1)) hR.1.2.1
                have l3 := bqs_lt (lfb D (fun i => gI M 134 i) k) (j + 1) (by omega)
                show f_Mo_ask_b34 (f_Mo_ask_l34 a k _ z) a k _ (nI (bqs (lfb D (fun i => gI M 134 i) k) (j + 1))) (nI (j + 1)) M1 = f_Mo_ask_l34 a k _ z (nI (bqs (lfb D (fun i => gI M 134 i) k) (j + 1 + 1))) (nI (j + 1 + 1)) M1
                unfold f_Mo_ask_b34
                rw [hR.2.2.2.2.2.1.1.1, if_neg (nI_ge (by omega) (by omega)), leftBy_ok hR hU1 k (by omega), bnd_s, leftBy_ok hR hU1 k (by omega), bnd_s, nI_1, bqs_s _ (j + 1)]
                by_cases q : lfb D (fun i => gI M 134 i) k (j + 1) < lfb D (fun i => gI M 134 i) k (bqs (lfb D (fun i => gI M 134 i) k) (j + 1))
                · rw [if_neg (nI_ge q (by omega)), if_pos q]
                · rw [if_pos (nI_le (by omega) (by omega)), if_neg q])
              (fun z => by
                show f_Mo_ask_b34 (f_Mo_ask_l34 a k _ z) a k _ (nI (bqs (lfb D (fun i => gI M 134 i) k) (D 0 0 - 1 + 1))) (nI (D 0 0 - 1 + 1)) M1 = _
                unfold f_Mo_ask_b34
                rw [show D 0 0 - 1 + 1 = D 0 0 by omega, hR.2.2.2.2.2.1.1.1, if_pos (nI_le (Nat.le_refl _) (by omega))]) (D 0 0 - 1) 0 fu (by omega) (by rw [fu_eq]; omega)
            have e : f_Mo_ask_l34 a k (nI (cnt (fB D (fun i => gI M 134 i) k) (2 ^ D 0 1))) fu (nI (bqs (lfb D (fun i => gI M 134 i) k) (0 + 1))) (nI (0 + 1)) M1 = _ := this
            rw [Nat.zero_add, bqs_1] at e
            exact e
          have l3 := bqs_lt (lfb D (fun i => gI M 134 i) k) (D 0 0) (by omega)
          rw [key, bnd_s, leftBy_ok hR hU1 k (by omega), bnd_s]
          by_cases h0 : a = 0
          · rw [if_pos h0, if_pos h0]
          · rw [if_neg h0, if_neg h0, if_pos (h01.resolve_left h0)]
    · rw [if_neg h01, if_pos rfl]
      by_cases ha : cnt (fB D (fun i => gI M 134 i) k) (2 ^ D 0 1) = 0 ∨ D 0 0 = 0
      · rw [if_pos ha]
      · rw [if_neg ha, if_neg (fun q => h01 (Or.inl q)), if_neg (fun q => h01 (Or.inr q))]
