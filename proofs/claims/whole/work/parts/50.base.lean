/-! PURE: numbers, memory, loops -/
theorem nx_and (a b : Nat) : nI a &&& nI b = nI (a &&& b) := by
  apply Int32.toBitVec_inj.1
  show BitVec.ofNat 32 a &&& BitVec.ofNat 32 b = BitVec.ofNat 32 (a &&& b)
  apply BitVec.eq_of_getLsbD_eq
  intro i hi
  simp [hi]
theorem nx_xor (a b : Nat) : nI a ^^^ nI b = nI (a ^^^ b) := by
  apply Int32.toBitVec_inj.1
  show BitVec.ofNat 32 a ^^^ BitVec.ofNat 32 b = BitVec.ofNat 32 (a ^^^ b)
  apply BitVec.eq_of_getLsbD_eq
  intro i hi
  simp [hi]
theorem nx_or (a b : Nat) : nI a ||| nI b = nI (a ||| b) := by
  apply Int32.toBitVec_inj.1
  show BitVec.ofNat 32 a ||| BitVec.ofNat 32 b = BitVec.ofNat 32 (a ||| b)
  apply BitVec.eq_of_getLsbD_eq
  intro i hi
  simp [hi]
theorem nI_lit (n : Nat) : (OfNat.ofNat n : Int32) = nI n := rfl
theorem nI_m1 : (-1 : Int32) = -nI 1 := rfl
/-- nI a is never -1 for the numbers here -/
theorem nI_neg1 {a : Nat} (h : a < 2 ^ 31) : ¬ nI a = -1 := by
  intro q
  have := congrArg Int32.toInt q
  rw [nI_toInt h] at this
  have e : (-1 : Int32).toInt = -1 := by decide
  rw [e] at this
  omega
theorem m1_lt {a : Nat} (h : a < 2 ^ 31) : (-1 : Int32) < nI a := by
  rw [Int32.lt_iff_toInt_lt, nI_toInt h]
  have e : (-1 : Int32).toInt = -1 := by decide
  rw [e]; omega
theorem nI_lt0 {a : Nat} (h : a < 2 ^ 31) : ¬ nI a < 0 := nI_pos h
/-- powers of two and single bits -/
theorem nx_one : ∀ k, k < 31 → (1 : Int32) <<< (nI k &&& 31) = nI (2 ^ k) := by decide +kernel
theorem nx_shr {a k : Nat} (ha : a < 2 ^ 31) (hk : k < 32) : nI a >>> (nI k &&& 31) = nI (a / 2 ^ k) := by
  have h : ∀ k, k < 32 → ((nI k &&& 31).toBitVec.smod 32).toNat = k := by decide +kernel
  exact pk_shrN ha _ k (h k hk)
theorem nx_bit {a k : Nat} (ha : a < 2 ^ 31) (hk : k < 32) : (nI a >>> (nI k &&& 31)) &&& 1 = nI (a / 2 ^ k % 2) := by
  rw [nx_shr ha hk, nI_lit 1, nx_and, Nat.and_one_is_mod]
theorem tb_mod (a k : Nat) : a / 2 ^ k % 2 = if a.testBit k then 1 else 0 := by
  rw [Nat.testBit_eq_decide_div_mod_eq]
  by_cases h : a / 2 ^ k % 2 = 1
  · simp [h]
  · simp only [h, decide_false]
    have := Nat.mod_two_eq_zero_or_one (a / 2 ^ k)
    simp; omega
theorem nx_sh1 {b k : Nat} (hb : b ≤ 1) (hk : k < 31) : nI b <<< (nI k &&& 31) = nI (b * 2 ^ k) := by
  have h : ∀ b, b < 2 → ∀ k, k < 31 → nI b <<< (nI k &&& 31) = nI (b * 2 ^ k) := by decide +kernel
  exact h b (by omega) k hk
/-- memory -/
theorem gI_sI (M : AM) (c k : Nat) (v : Int32) (a b : Nat) : gI (sI M c k v) a b = if a = c ∧ b = k then v else gI M a b := rfl
theorem gI_sL (M : AM) (c k : Nat) (v : Int64) (a b : Nat) : gI (sL M c k v) a b = gI M a b := rfl
theorem gI_sR (M : AM) (c k v a b : Nat) : gI (sR M c k v) a b = gI M a b := rfl
theorem gL_sI (M : AM) (c k : Nat) (v : Int32) (a b : Nat) : gL (sI M c k v) a b = gL M a b := rfl
theorem gL_sL (M : AM) (c k : Nat) (v : Int64) (a b : Nat) : gL (sL M c k v) a b = if a = c ∧ b = k then v else gL M a b := rfl
theorem gL_sR (M : AM) (c k v a b : Nat) : gL (sR M c k v) a b = gL M a b := rfl
theorem gR_sI (M : AM) (c k : Nat) (v : Int32) (a b : Nat) : gR (sI M c k v) a b = gR M a b := rfl
theorem gR_sL (M : AM) (c k : Nat) (v : Int64) (a b : Nat) : gR (sL M c k v) a b = gR M a b := rfl
theorem gR_sR (M : AM) (c k v a b : Nat) : gR (sR M c k v) a b = if a = c ∧ b = k then v else gR M a b := rfl
section PB
variable {β : Type} {n : Nat} {M : AM} {a : Nat}
theorem ald_nI {j : Nat} {κ : Int32 → Option β} (h : j < n) (hn : n < 2 ^ 31) : ald n M a (nI j) κ = κ (gI M a j) := by
  unfold ald
  rw [nI_clamp (by omega), if_neg]
  rintro (q | q)
  · exact nI_pos (by omega) q
  · omega
theorem lald_nI {j : Nat} {κ : Int64 → Option β} (h : j < n) (hn : n < 2 ^ 31) : lald n M a (nI j) κ = κ (gL M a j) := by
  unfold lald
  rw [nI_clamp (by omega), if_neg]
  rintro (q | q)
  · exact nI_pos (by omega) q
  · omega
theorem rald_nI {j : Nat} {κ : Nat → Option β} (h : j < n) (hn : n < 2 ^ 31) (hk : kd0 (gR M a j) = 9) : rald n M a (nI j) κ = κ (gR M a j) := by
  unfold rald
  rw [nI_clamp (by omega), if_neg, if_pos hk]
  rintro (q | q)
  · exact nI_pos (by omega) q
  · omega
theorem ast_nI {j : Nat} {v : Int32} {κ : AM → Option β} (h : j < n) (hn : n < 2 ^ 31) : ast n M a (nI j) v κ = κ (sI M a j v) := by
  unfold ast
  rw [nI_clamp (by omega), if_neg]
  rintro (q | q)
  · exact nI_pos (by omega) q
  · omega
theorem last_nI {j : Nat} {v : Int64} {κ : AM → Option β} (h : j < n) (hn : n < 2 ^ 31) : last' n M a (nI j) v κ = κ (sL M a j v) := by
  unfold last'
  rw [nI_clamp (by omega), if_neg]
  rintro (q | q)
  · exact nI_pos (by omega) q
  · omega
theorem rast_nI {j v : Nat} {κ : AM → Option β} (h : j < n) (hn : n < 2 ^ 31) : rast n M a (nI j) v κ = κ (sR M a j v) := by
  unfold rast
  rw [nI_clamp (by omega), if_neg]
  rintro (q | q)
  · exact nI_pos (by omega) q
  · omega
theorem sald_nI {xs : Nat → Int32} {j : Nat} {κ : Int32 → Option β} (h : j < n) (hn : n < 2 ^ 31) : sald n xs (nI j) κ = κ (xs j) := by
  unfold sald
  rw [nI_clamp (by omega), if_neg]
  rintro (q | q)
  · exact nI_pos (by omega) q
  · omega
theorem wI_eq {c k : Nat} {v : Int32} {κ : AM → Option β} : wI M c k v κ = κ (sI M c k v) := rfl
theorem wL_eq {c k : Nat} {v : Int64} {κ : AM → Option β} : wL M c k v κ = κ (sL M c k v) := rfl
theorem wR_eq {c k v : Nat} {κ : AM → Option β} : wR M c k v κ = κ (sR M c k v) := rfl
theorem ckK_eq {x k : Nat} {A : Option β} (h : kd0 x = k) : ckK x k A = A := if_pos h
theorem ckB_0 {A : Option β} : ckB 0 A = A := if_pos (Or.inl rfl)
theorem ckB_1 {A : Option β} : ckB 1 A = A := if_pos (Or.inr rfl)
theorem ckB_eq {v : Int32} {A : Option β} (h : v = 0 ∨ v = 1) : ckB v A = A := if_pos h
theorem dvz_eq {y : Int32} {A : Option β} (h : ¬ y = 0) : dvz y A = A := if_neg h
end PB
theorem bnd_s {α β : Type} {x : α} {M : AM} {κ : α → AM → Option β} : bnd (some (x, M)) κ = κ x M := rfl
theorem bn2_l {α β : Type} {x : α} {M : AM} {κ : α → AM → Option (β × AM)} : bn2 (some (.inl (x, M))) κ = κ x M := rfl
theorem bn2_r {α β : Type} {p : β × AM} {κ : α → AM → Option (β × AM)} : bn2 (some (.inr p)) κ = some p := rfl
theorem bn3_l {α β γ : Type} {x : α} {M : AM} {κ : α → AM → Option ((γ × AM) ⊕ (β × AM))} : bn3 (some (.inl (x, M))) κ = κ x M := rfl
theorem bn3_r {α β γ : Type} {p : β × AM} {κ : α → AM → Option ((γ × AM) ⊕ (β × AM))} : bn3 (some (.inr p)) κ = some (.inr p) := rfl
/-- loops whose state is known at every turn -/
theorem for_up {σ β : Type} (L : Nat → σ → Option β) (S : Nat → σ) (n : Nat) (out : β) (step : ∀ k z, k < n → L (z + 1) (S k) = L z (S (k + 1))) (stop : ∀ z, L (z + 1) (S n) = some out) : ∀ r k z, k + r = n → r < z → L z (S k) = some out := by
  intro r
  induction r with
  | zero =>
    intro k z hk hz
    obtain ⟨z, rfl⟩ : ∃ y, z = y + 1 := ⟨z - 1, by omega⟩
    have : k = n := by omega
    subst this
    exact stop z
  | succ r ih =>
    intro k z hk hz
    obtain ⟨z, rfl⟩ : ∃ y, z = y + 1 := ⟨z - 1, by omega⟩
    rw [step k z (by omega)]
    exact ih (k + 1) z (by omega) (by omega)
/-- loops with an invariant -/
theorem for_inv {σ β : Type} (L : Nat → σ → Option β) (I : Nat → σ → Prop) (n : Nat) (Post : β → Prop) (step : ∀ k s z, k < n → I k s → (∃ s', I (k + 1) s' ∧ L (z + 1) s = L z s') ∨ ∃ o, L (z + 1) s = some o ∧ Post o) (stop : ∀ s z, I n s → ∃ o, L (z + 1) s = some o ∧ Post o) : ∀ r k s z, k + r = n → r < z → I k s → ∃ o, L z s = some o ∧ Post o := by
  intro r
  induction r with
  | zero =>
    intro k s z hk hz hI
    obtain ⟨z, rfl⟩ : ∃ y, z = y + 1 := ⟨z - 1, by omega⟩
    have : k = n := by omega
    subst this
    exact stop s z hI
  | succ r ih =>
    intro k s z hk hz hI
    obtain ⟨z, rfl⟩ : ∃ y, z = y + 1 := ⟨z - 1, by omega⟩
    rcases step k s z (by omega) hI with ⟨s', h1, h2⟩ | h
    · rw [h2]
      exact ih (k + 1) s' z (by omega) (by omega) h1
    · exact h
/-- how many bits -/
def pc (a : Nat) : Nat := a % 2 + a / 2 % 2 + a / 4 % 2 + a / 8 % 2 + a / 16 % 2 + a / 32 % 2 + a / 64 % 2 + a / 128 % 2
theorem pc_le (a : Nat) : pc a ≤ 8 := by unfold pc; omega
theorem bc_ok {a : Nat} (h : a < 256) (M : AM) : f_Int_bitCount (nI a) M = some (nI (pc a), M) := by
  have e : ∀ a, a < 256 → (f_Int_bitCount (nI a) (fun _ _ => 0, fun _ _ => 0, fun _ _ => 0, 0)).map (fun q => q.1) = some (nI (pc a)) := by decide +kernel
  have e2 : ∀ (x : Int32) (M : AM), f_Int_bitCount x M = (f_Int_bitCount x (fun _ _ => 0, fun _ _ => 0, fun _ _ => 0, 0)).map (fun q => (q.1, M)) := fun x M => rfl
  rw [e2]
  have := e a h
  cases hz : f_Int_bitCount (nI a) (fun _ _ => 0, fun _ _ => 0, fun _ _ => 0, 0) with
  | none => rw [hz] at this; cases this
  | some q =>
    rw [hz] at this
    have h1 : q.1 = nI (pc a) := Option.some.inj this
    rw [← h1]; rfl
def pcp (a : Nat) : Nat → Nat
  | 0 => 0
  | k + 1 => pcp a k + a / 2 ^ k % 2
theorem pcp_8 (a : Nat) : pcp a 8 = pc a := by simp [pcp, pc]
theorem members_ok {a : Nat} (h : a < 2 ^ 31) (M : AM) : f_Mo_members (nI a) M = some (nI (pc a), M) := by
  unfold f_Mo_members
  have key : f_Mo_members_l4 (nI a) fu 0 0 M = some (nI (pc a), M) := for_up (fun z (s : Int32 × Int32 × AM) => f_Mo_members_l4 (nI a) z s.1 s.2.1 s.2.2) (fun k => (nI (pcp a k), nI k, M)) 8 (nI (pc a), M)
    (fun k z hk => by
      show f_Mo_members_b4 (f_Mo_members_l4 (nI a) z) (nI a) (nI (pcp a k)) (nI k) M = f_Mo_members_l4 (nI a) z (nI (pcp a (k + 1))) (nI (k + 1)) M
      unfold f_Mo_members_b4
      rw [nI_lit 8, if_neg (nI_ge hk (by decide)), nx_bit h (by omega), nI_add, nI_1]
      rfl)
    (fun z => by
      show f_Mo_members_b4 (f_Mo_members_l4 (nI a) z) (nI a) (nI (pcp a 8)) (nI 8) M = _
      unfold f_Mo_members_b4
      rw [nI_lit 8, if_pos (nI_le (Nat.le_refl _) (by decide)), pcp_8]) 8 0 fu rfl (by rw [fu_eq]; decide)
  rw [bnd_eq key]
