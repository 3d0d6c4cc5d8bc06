/-! feed -/
theorem by_and (x : Int32) : x &&& 255 = nI (x.toBitVec.toNat % 256) := by
  apply Int32.toBitVec_inj.1
  show x.toBitVec &&& 255#32 = BitVec.ofNat 32 (x.toBitVec.toNat % 256)
  apply BitVec.eq_of_toNat_eq
  rw [BitVec.toNat_and, BitVec.toNat_ofNat, BitVec.toNat_ofNat]
  have h : x.toBitVec.toNat % 256 < 2 ^ 32 := by omega
  rw [Nat.mod_eq_of_lt h]
  show x.toBitVec.toNat &&& 255 = _
  exact Nat.and_two_pow_sub_one_eq_mod (n := 8) _
theorem by_i8 (x : Int32) : x.toInt8 = (nI (x.toBitVec.toNat % 256)).toInt8 := by
  apply Int8.toBitVec_inj.1
  rw [Int32.toBitVec_toInt8, Int32.toBitVec_toInt8]
  apply BitVec.eq_of_toNat_eq
  rw [BitVec.signExtend_eq_setWidth_of_le _ (by decide), BitVec.signExtend_eq_setWidth_of_le _ (by decide), BitVec.toNat_setWidth, BitVec.toNat_setWidth]
  show _ = (BitVec.ofNat 32 (x.toBitVec.toNat % 256)).toNat % 2 ^ 8
  rw [BitVec.toNat_ofNat]
  omega
/-- byte k of a word, the greatest first -/
def bt (a : Int32) (k : Nat) : Nat := (a >>> (nI (24 - 8 * k) &&& 31)).toBitVec.toNat % 256
theorem bt_lt (a : Int32) (k : Nat) : bt a k < 256 := Nat.mod_lt _ (by decide)
theorem put_step {a : Int32} {M : AM} {n z k : Nat} (h : gI M 1 1 = nI n) (hn : n < 1600) (hk : k < 4) : f_Tape_put_l3 a (z + 1) (nI (24 - 8 * k)) M = f_Tape_put_l3 a z (nI (24 - 8 * k) + -8) (sI (sI M 2 n (nI (bt a k)).toInt8.toInt32) 1 1 (nI (n + 1))) := by
  show f_Tape_put_b3 (f_Tape_put_l3 a z) a (nI (24 - 8 * k)) M = _
  unfold f_Tape_put_b3
  rw [if_neg (nI_pos (by omega)), h, nI_lit 1600, if_neg (nI_ge hn (by decide)), ast_nI hn (by decide), wI_eq]
  rw [show gI (sI M 2 n ((a >>> (nI (24 - 8 * k) &&& 31)).toInt8.toInt32).toInt8.toInt32) 1 1 = nI n from h, nI_1, Int8.toInt8_toInt32, by_i8]
  rfl
theorem four_step {a : Int32} {M : AM} {n z k : Nat} (h : gI M 105 1 = nI n) (hn : n < 1600) (hk : k < 4) : f_Mo_four_l3 a (z + 1) (nI (24 - 8 * k)) M = f_Mo_four_l3 a z (nI (24 - 8 * k) + -8) (sI (sI M 106 n (nI (bt a k))) 105 1 (nI (n + 1))) := by
  show f_Mo_four_b3 (f_Mo_four_l3 a z) a (nI (24 - 8 * k)) M = _
  unfold f_Mo_four_b3
  rw [if_neg (nI_pos (by omega)), h, ast_nI hn (by decide), wI_eq, by_and]
  rw [show gI (sI M 106 n (nI ((a >>> (nI (24 - 8 * k) &&& 31)).toBitVec.toNat % 256))) 105 1 = nI n from h, nI_1]
  rfl
/-- bytes laid: from n on, up to m -/
def TW (cs ks ca : Nat) (enc : Nat → Int32) (f : Nat → Nat) (n m : Nat) (M M' : AM) : Prop := (∀ c k, gR M' c k = gR M c k) ∧ gI M' cs ks = nI m ∧ (∀ i, n ≤ i → i < m → gI M' ca i = enc (f i)) ∧ (∀ c k, ¬ (c = cs ∧ k = ks) → ¬ (c = ca ∧ n ≤ k ∧ k < m) → gI M' c k = gI M c k)
theorem TW.trans {cs ks ca : Nat} {enc : Nat → Int32} {f : Nat → Nat} {n m l : Nat} {M M1 M2 : AM} (hne : cs ≠ ca) (h1 : TW cs ks ca enc f n m M M1) (h2 : TW cs ks ca enc f m l M1 M2) (hnm : n ≤ m) (hml : m ≤ l) : TW cs ks ca enc f n l M M2 := by
  refine ⟨fun c k => (h2.1 c k).trans (h1.1 c k), h2.2.1, fun i hi hl => ?_, fun c k q1 q2 => ?_⟩
  · by_cases hm : m ≤ i
    · exact h2.2.2.1 i hm hl
    · rw [h2.2.2.2 ca i (by omega) (by omega)]
      exact h1.2.2.1 i hi (by omega)
  · rw [h2.2.2.2 c k q1 (by omega)]
    exact h1.2.2.2 c k q1 (by omega)
theorem put_ok {a : Int32} {M : AM} {n : Nat} {f : Nat → Nat} (h : gI M 1 1 = nI n) (hn : n + 4 ≤ 1600) (hf : ∀ k, k < 4 → f (n + k) = bt a k) : ∃ M', f_Tape_put a M = some ((), M') ∧ TW 1 1 2 (fun v => (nI v).toInt8.toInt32) f n (n + 4) M M' := by
  unfold f_Tape_put
  refine ⟨?_, ?_, ?_⟩
  rotate_left
  · rw [fu_eq, show (1000000 : Nat) = 999995 + 1 + 1 + 1 + 1 + 1 from rfl]
    rw [show (24 : Int32) = nI (24 - 8 * 0) from rfl, put_step h (by omega) (by decide)]
    rw [show nI (24 - 8 * 0) + -8 = nI (24 - 8 * 1) from by decide, put_step (n := n + 1) rfl (by omega) (by decide)]
    rw [show nI (24 - 8 * 1) + -8 = nI (24 - 8 * 2) from by decide, put_step (n := n + 2) rfl (by omega) (by decide)]
    rw [show nI (24 - 8 * 2) + -8 = nI (24 - 8 * 3) from by decide, put_step (n := n + 3) rfl (by omega) (by decide)]
    rfl
  · refine ⟨fun c k => rfl, rfl, fun i h1 h2 => ?_, fun c k q1 q2 => ?_⟩
    · have e0 := hf 0 (by decide)
      have e1 := hf 1 (by decide)
      have e2 := hf 2 (by decide)
      have e3 := hf 3 (by decide)
      obtain rfl | rfl | rfl | rfl : i = n + 0 ∨ i = n + 1 ∨ i = n + 2 ∨ i = n + 3 := by omega
      · have e00 : f i = bt a 0 := e0
        simp [gI_sI, e00]
      · simp [gI_sI, e1]
      · simp [gI_sI, e2]
      · simp [gI_sI, e3]
    · simp only [gI_sI]
      repeat rw [if_neg (by omega)]
theorem four_ok {a : Int32} {M : AM} {n : Nat} {f : Nat → Nat} (h : gI M 105 1 = nI n) (hn : n + 4 ≤ 1600) (hf : ∀ k, k < 4 → f (n + k) = bt a k) : ∃ M', f_Mo_four a M = some ((), M') ∧ TW 105 1 106 nI f n (n + 4) M M' := by
  unfold f_Mo_four
  refine ⟨?_, ?_, ?_⟩
  rotate_left
  · rw [fu_eq, show (1000000 : Nat) = 999995 + 1 + 1 + 1 + 1 + 1 from rfl]
    rw [show (24 : Int32) = nI (24 - 8 * 0) from rfl, four_step h (by omega) (by decide)]
    rw [show nI (24 - 8 * 0) + -8 = nI (24 - 8 * 1) from by decide, four_step (n := n + 1) rfl (by omega) (by decide)]
    rw [show nI (24 - 8 * 1) + -8 = nI (24 - 8 * 2) from by decide, four_step (n := n + 2) rfl (by omega) (by decide)]
    rw [show nI (24 - 8 * 2) + -8 = nI (24 - 8 * 3) from by decide, four_step (n := n + 3) rfl (by omega) (by decide)]
    rfl
  · refine ⟨fun c k => rfl, rfl, fun i h1 h2 => ?_, fun c k q1 q2 => ?_⟩
    · have e0 := hf 0 (by decide)
      have e1 := hf 1 (by decide)
      have e2 := hf 2 (by decide)
      have e3 := hf 3 (by decide)
      obtain rfl | rfl | rfl | rfl : i = n + 0 ∨ i = n + 1 ∨ i = n + 2 ∨ i = n + 3 := by omega
      · have e00 : f i = bt a 0 := e0
        simp [gI_sI, e00]
      · simp [gI_sI, e1]
      · simp [gI_sI, e2]
      · simp [gI_sI, e3]
    · simp only [gI_sI]
      repeat rw [if_neg (by omega)]
def wd (a b c d e : Int32) (j : Nat) : Int32 := if j = 0 then a else if j = 1 then b else if j = 2 then c else if j = 3 then d else e
theorem B_feed (a b c d e : Int32) : Both (f_C_feed a b c d e) (f_Mo_feed a b c d e) := by
  intro D M h
  obtain ⟨ok, hC, hM, hB, hT, hS, hL⟩ := h.parts
  have hn : D 9 0 ≤ 1600 := ok.2.2.2.2.1
  unfold f_C_feed f_Mo_feed
  by_cases hle : D 9 0 ≤ 1580
  · obtain ⟨n, hN⟩ : ∃ n, D 9 0 = n := ⟨_, rfl⟩
    have hT1 : gI M 1 1 = nI n := by rw [← hN]; exact hT.1
    have hT2 : gI M 105 1 = nI n := by rw [← hN]; exact hT.2.1
    rw [hN] at hle hn
    let f : Nat → Nat := fun i => if i < n then D 52 i else bt (wd a b c d e ((i - n) / 4)) ((i - n) % 4)
    have hf : ∀ j k, k < 4 → f (n + 4 * j + k) = bt (wd a b c d e j) k := fun j k hk => by
      show (if n + 4 * j + k < n then _ else _) = _
      rw [if_neg (by omega), show (n + 4 * j + k - n) / 4 = j by omega, show (n + 4 * j + k - n) % 4 = k by omega]
    obtain ⟨A1, p1, t1⟩ := put_ok (a := a) (n := n) (f := f) hT1 (by omega) (hf 0)
    obtain ⟨A2, p2, t2⟩ := put_ok (a := b) (n := n + 4) (f := f) t1.2.1 (by omega) (hf 1)
    obtain ⟨A3, p3, t3⟩ := put_ok (a := c) (n := n + 8) (f := f) t2.2.1 (by omega) (hf 2)
    obtain ⟨A4, p4, t4⟩ := put_ok (a := d) (n := n + 12) (f := f) t3.2.1 (by omega) (hf 3)
    obtain ⟨A5, p5, t5⟩ := put_ok (a := e) (n := n + 16) (f := f) t4.2.1 (by omega) (hf 4)
    have tA : TW 1 1 2 (fun v => (nI v).toInt8.toInt32) f n (n + 20) M A5 := ((((t1.trans (by decide) t2 (by omega) (by omega)).trans (by decide) t3 (by omega) (by omega)).trans (by decide) t4 (by omega) (by omega)).trans (by decide) t5 (by omega) (by omega))
    obtain ⟨B1, q1, u1⟩ := four_ok (a := a) (n := n) (f := f) ((tA.2.2.2 105 1 (by omega) (by omega)).trans hT2) (by omega) (hf 0)
    obtain ⟨B2, q2, u2⟩ := four_ok (a := b) (n := n + 4) (f := f) u1.2.1 (by omega) (hf 1)
    obtain ⟨B3, q3, u3⟩ := four_ok (a := c) (n := n + 8) (f := f) u2.2.1 (by omega) (hf 2)
    obtain ⟨B4, q4, u4⟩ := four_ok (a := d) (n := n + 12) (f := f) u3.2.1 (by omega) (hf 3)
    obtain ⟨B5, q5, u5⟩ := four_ok (a := e) (n := n + 16) (f := f) u4.2.1 (by omega) (hf 4)
    have tB : TW 105 1 106 nI f n (n + 20) A5 B5 := ((((u1.trans (by decide) u2 (by omega) (by omega)).trans (by decide) u3 (by omega) (by omega)).trans (by decide) u4 (by omega) (by omega)).trans (by decide) u5 (by omega) (by omega))
    refine ⟨nI (n + 20), A5, B5, _, ?_, ?_, h.tape (n + 20) f (by omega) (fun i hi => ?_) ⟨fun c k => (tB.1 c k).trans (tA.1 c k), fun c k q => (tB.2.2.2 c k (by omega) (by omega)).trans (tA.2.2.2 c k (by omega) (by omega))⟩ ?_ tB.2.1 (fun i hi => ?_)⟩
    · rw [hT1, nI_lit 1580, if_pos (nI_le hle (by decide)), p1, bnd_s, p2, bnd_s, p3, bnd_s, p4, bnd_s, p5, bnd_s, tA.2.1]
    · rw [(tA.2.2.2 105 1 (by omega) (by omega)).trans hT2, nI_lit 20, nI_add, nI_lit 1600, if_pos (nI_le (by omega) (by decide)), q1, bnd_s, q2, bnd_s, q3, bnd_s, q4, bnd_s, q5, bnd_s, tB.2.1]
    · show (if i < n then D 52 i else _) < 256
      split
      · exact ok.2.2.2.2.2.2.2.2.1 i (by omega)
      · exact bt_lt _ _
    · rw [tB.2.2.2 1 1 (by omega) (by omega)]; exact tA.2.1
    · by_cases hin : i < n
      · have e1 : f i = D 52 i := if_pos hin
        rw [tB.2.2.2 106 i (by omega) (by omega), tA.2.2.2 106 i (by omega) (by omega), tB.2.2.2 2 i (by omega) (by omega), tA.2.2.2 2 i (by omega) (by omega), e1]
        exact hT.2.2.1 i (by omega)
      · rw [tB.2.2.2 2 i (by omega) (by omega)]
        exact ⟨tB.2.2.1 i (by omega) hi, tA.2.2.1 i (by omega) hi⟩
  · refine ⟨-1, M, M, D, ?_, ?_, h⟩
    · rw [hT.1, nI_lit 1580, if_neg (nI_ge (by omega) (by omega))]
    · rw [hT.2.1, nI_lit 20, nI_add, nI_lit 1600, if_neg (nI_ge (by omega) (by omega))]
