/-! pictures that can be -/
def pcr (D : DT) : Nat := D (10 + D 7 0) 0
def tha (D : DT) (so mo : Nat) : Nat → Nat → Bool
  | 0, _ => false
  | k + 1, p => tha D so mo k p || (decide (k &&& so = k) && (decide (p = D (10 + D 7 0) 0 ^^^ xt (D 3) (D 0 1) k) || decide (p = (D (10 + D 7 0) 0 ^^^ xt (D 3) (D 0 1) k) ^^^ mo)))
theorem tha_s (D : DT) (so mo k p : Nat) : tha D so mo (k + 1) p = (tha D so mo k p || (decide (k &&& so = k) && (decide (p = D (10 + D 7 0) 0 ^^^ xt (D 3) (D 0 1) k) || decide (p = (D (10 + D 7 0) 0 ^^^ xt (D 3) (D 0 1) k) ^^^ mo)))) := rfl
theorem tha_iff (D : DT) (so mo p : Nat) : ∀ n, tha D so mo n p = true ↔ ∃ s, s < n ∧ s &&& so = s ∧ (p = D (10 + D 7 0) 0 ^^^ xt (D 3) (D 0 1) s ∨ p = (D (10 + D 7 0) 0 ^^^ xt (D 3) (D 0 1) s) ^^^ mo) := by
  intro n
  induction n with
  | zero =>
    constructor
    · intro q; cases q
    · rintro ⟨s, h, _⟩; omega
  | succ n ih =>
    rw [tha_s, Bool.or_eq_true, ih, Bool.and_eq_true, Bool.or_eq_true, decide_eq_true_iff, decide_eq_true_iff, decide_eq_true_iff]
    constructor
    · rintro (⟨s, h1, h2⟩ | ⟨h1, h2⟩)
      · exact ⟨s, by omega, h2⟩
      · exact ⟨n, by omega, h1, h2⟩
    · rintro ⟨s, h1, h2, h3⟩
      by_cases hs : s = n
      · subst hs; exact Or.inr ⟨h2, h3⟩
      · exact Or.inl ⟨s, by omega, h2, h3⟩
theorem layL2 (a b : Int32) (M : AM) : f_Mo_layPictures_l2 a b fu 0 M = some ((), fil M 125 0 256) :=
  for_up (fun z (s : Int32 × AM) => f_Mo_layPictures_l2 a b z s.1 s.2) (fun k => (nI k, fil M 125 0 k)) 256 _
    (fun k z hk => by
      show f_Mo_layPictures_b2 (f_Mo_layPictures_l2 a b z) a b (nI k) (fil M 125 0 k) = _
      unfold f_Mo_layPictures_b2
      rw [nI_lit 256, if_neg (nI_ge hk (by decide)), ast_nI hk (by decide), nI_1]
      rfl)
    (fun z => by
      show f_Mo_layPictures_b2 (f_Mo_layPictures_l2 a b z) a b (nI 256) (fil M 125 0 256) = _
      unfold f_Mo_layPictures_b2
      rw [nI_lit 256, if_pos (nI_le (Nat.le_refl _) (by decide))]) 256 0 fu rfl (by rw [fu_eq]; decide)
/-- the row of pictures that are there -/
def THR (T : Nat → Bool) (N : AM) : Prop := ∀ p, p < 256 → gI N 125 p = if T p = true then 1 else 0
theorem layL24 {D : DT} {M : AM} (h : Rel D M) {so mo : Nat} (hso : so < 256) (hmo : mo < 256) : ∃ M', f_Mo_layPictures_l24 (nI so) (nI mo) fu 0 (fil M 125 0 256) = some ((), M') ∧ Sm M M' ∧ THR (tha D so mo (so + 1)) M' := by
  have h256 := p2_le h.1.1
  have s125 : ∀ j, scr 125 j := fun j => by unfold scr; omega
  have hx : ∀ s, D (10 + D 7 0) 0 ^^^ xt (D 3) (D 0 1) s < 256 := fun s => Nat.lt_of_lt_of_le (Nat.xor_lt_two_pow h.pic (xt_lt h.1 s _ (Nat.le_refl _))) h256
  have hy : ∀ s, (D (10 + D 7 0) 0 ^^^ xt (D 3) (D 0 1) s) ^^^ mo < 256 := fun s => Nat.xor_lt_two_pow (n := 8) (hx s) hmo
  have key : ∃ o, f_Mo_layPictures_l24 (nI so) (nI mo) fu 0 (fil M 125 0 256) = some o ∧ (Sm M o.2 ∧ THR (tha D so mo (so + 1)) o.2) := by
    refine for_inv (fun z (s : Int32 × AM) => f_Mo_layPictures_l24 (nI so) (nI mo) z s.1 s.2) (fun k s => s.1 = nI k ∧ Sm M s.2 ∧ THR (tha D so mo k) s.2) (so + 1) _ (fun k s z hk hI => ?_) (fun s z hI => ?_) (so + 1) 0 (0, fil M 125 0 256) fu (by omega) (by rw [fu_eq]; omega) ⟨rfl, fil_sm _ _ _ _ s125, fun p hp => by show gI (fil M 125 0 256) 125 p = _; rw [fil_I, if_pos ⟨rfl, hp⟩]; rfl⟩
    · obtain ⟨v, N⟩ := s
      obtain ⟨rfl, i1, i2⟩ := hI
      simp only at i1 i2
      left
      have hR := h.sm i1
      by_cases hw : k &&& so = k
      · refine ⟨(nI (k + 1), sI (sI N 125 (D (10 + D 7 0) 0 ^^^ xt (D 3) (D 0 1) k) 1) 125 ((D (10 + D 7 0) 0 ^^^ xt (D 3) (D 0 1) k) ^^^ mo) 1), ⟨rfl, (i1.sI (s125 _)).sI (s125 _), fun p hp => ?_⟩, ?_⟩
        · show gI (sI _ _ _ _) 125 p = _
          rw [gI_sI, gI_sI, i2 p hp, tha_s]
          by_cases q1 : p = D (10 + D 7 0) 0 ^^^ xt (D 3) (D 0 1) k
          · by_cases q2 : p = (D (10 + D 7 0) 0 ^^^ xt (D 3) (D 0 1) k) ^^^ mo
            · rw [if_pos ⟨rfl, q2⟩]; simp [hw, q1]
            · rw [if_neg (fun z => q2 z.2), if_pos ⟨rfl, q1⟩]; simp [hw, q1]
          · by_cases q2 : p = (D (10 + D 7 0) 0 ^^^ xt (D 3) (D 0 1) k) ^^^ mo
            · rw [if_pos ⟨rfl, q2⟩]; simp [hw, q2]
            · rw [if_neg (fun z => q2 z.2), if_neg (fun z => q1 z.2)]; simp [q1, q2]
        · have hR2 := h.sm (i1.sI (s125 (D (10 + D 7 0) 0 ^^^ xt (D 3) (D 0 1) k)) (v := 1))
          show f_Mo_layPictures_b24 (f_Mo_layPictures_l24 (nI so) (nI mo) z) (nI so) (nI mo) (nI k) N = _
          unfold f_Mo_layPictures_b24
          rw [if_neg (nI_nlt (by omega) (by omega)), isWithin_ok (by omega) hso, bnd_s, if_pos hw, if_neg (by decide), now_ald hR 0 0 rfl (by decide), turnedBy_ok hR (by omega), bnd_s, nx_xor, ast_nI (hx k) (by decide), now_ald hR2 0 0 rfl (by decide), turnedBy_ok hR2 (by omega), bnd_s, nx_xor, nx_xor, ast_nI (hy k) (by decide), nI_1]
      · refine ⟨(nI (k + 1), N), ⟨rfl, i1, fun p hp => ?_⟩, ?_⟩
        · show gI N 125 p = _
          rw [i2 p hp, tha_s]; simp [hw]
        · show f_Mo_layPictures_b24 (f_Mo_layPictures_l24 (nI so) (nI mo) z) (nI so) (nI mo) (nI k) N = _
          unfold f_Mo_layPictures_b24
          rw [if_neg (nI_nlt (by omega) (by omega)), isWithin_ok (by omega) hso, bnd_s, if_neg hw, if_pos rfl, nI_1]
    · obtain ⟨v, N⟩ := s
      obtain ⟨rfl, i1, i2⟩ := hI
      refine ⟨((), N), ?_, i1, i2⟩
      show f_Mo_layPictures_b24 (f_Mo_layPictures_l24 (nI so) (nI mo) z) (nI so) (nI mo) (nI (so + 1)) N = _
      unfold f_Mo_layPictures_b24
      rw [if_pos (nI_lt (by omega) (by omega))]
  obtain ⟨⟨u, M'⟩, k1, k2, k3⟩ := key
  exact ⟨M', k1, k2, k3⟩
theorem layL89 {T : Nat → Bool} {N : AM} (hT : THR T N) : f_Mo_layPictures_l89 fu 0 0 N = some (nI (cnt T 256), N) :=
  for_up (fun z (s : Int32 × Int32 × AM) => f_Mo_layPictures_l89 z s.1 s.2.1 s.2.2) (fun k => (nI (cnt T k), nI k, N)) 256 _
    (fun k z hk => by
      show f_Mo_layPictures_b89 (f_Mo_layPictures_l89 z) (nI (cnt T k)) (nI k) N = f_Mo_layPictures_l89 z (nI (cnt T (k + 1))) (nI (k + 1)) N
      unfold f_Mo_layPictures_b89
      rw [nI_lit 256, if_neg (nI_ge hk (by decide)), ald_nI hk (by decide), hT k hk, truth_b, bnd_s, nI_1, cnt_s]
      by_cases q : T k = true
      · rw [if_pos q, if_pos q, nI_1]
      · rw [if_neg q, if_neg q, nI_lit 0, nI_add])
    (fun z => by
      show f_Mo_layPictures_b89 (f_Mo_layPictures_l89 z) (nI (cnt T 256)) (nI 256) N = _
      unfold f_Mo_layPictures_b89
      rw [nI_lit 256, if_pos (nI_le (Nat.le_refl _) (by decide))]) 256 0 fu rfl (by rw [fu_eq]; decide)
theorem layPictures_ok {D : DT} {M : AM} (h : Rel D M) {so mo : Nat} (hso : so < 256) (hmo : mo < 256) : ∃ M', f_Mo_layPictures (nI so) (nI mo) M = some (nI (cnt (tha D so mo (so + 1)) 256), M') ∧ Sm M M' ∧ THR (tha D so mo (so + 1)) M' := by
  obtain ⟨M', k1, k2, k3⟩ := layL24 h hso hmo
  refine ⟨M', ?_, k2, k3⟩
  unfold f_Mo_layPictures
  rw [layL2, bnd_s, k1, bnd_s, layL89 k3, bnd_s]
/-- a picture that can be -/
def thp (D : DT) (p : Nat) : Bool := tha D (frN (D 0 1) (D (10 + D 7 0) 1)) 0 (frN (D 0 1) (D (10 + D 7 0) 1) + 1) p
theorem thp_iff {D : DT} {M : AM} (h : Rel D M) (p : Nat) : thp D p = true ↔ ∃ k, k < 2 ^ D 0 1 ∧ k &&& D (10 + D 7 0) 1 = 0 ∧ p = D (10 + D 7 0) 0 ^^^ xt (D 3) (D 0 1) k := by
  unfold thp
  rw [tha_iff]
  constructor
  · rintro ⟨s, h1, h2, h3⟩
    have := (sub_fr h s).mp h2
    refine ⟨s, this.1, this.2, ?_⟩
    rcases h3 with h3 | h3
    · exact h3
    · rw [Nat.xor_zero] at h3; exact h3
  · rintro ⟨s, h1, h2, h3⟩
    have := (sub_fr h s).mpr ⟨h1, h2⟩
    exact ⟨s, by have := sub_le this; omega, this, Or.inl h3⟩
theorem pictures_ok {D : DT} {M : AM} (h : Rel D M) : ∃ M', f_Mo_pictures M = some (nI (cnt (thp D) 256), M') ∧ Sm M M' ∧ THR (thp D) M' := by
  obtain ⟨M', k1, k2, k3⟩ := layPictures_ok h h.fr' (mo := 0) (by decide)
  refine ⟨M', ?_, k2, k3⟩
  unfold f_Mo_pictures
  rw [Mo_free_ok h, bnd_s]
  rw [nI_0] at k1
  rw [k1, bnd_s]
  rfl
/-- a scan that leaves the memory alone -/
theorem scan_up {M : AM} (L : Nat → Int32 → Int32 → AM → Option (Int32 × AM)) (i n : Nat) (cand : Nat → Option Int32) (hin : i ≤ n) (hn : n < 100000) (h0 : scn cand i = none)
    (stepN : ∀ k z v, i ≤ k → k < n → cand k = none → L (z + 1) v (nI k) M = L z v (nI (k + 1)) M)
    (step0 : ∀ k z s, i ≤ k → k < n → cand k = some s → L (z + 1) (-1) (nI k) M = L z (nI k) (nI (k + 1)) M)
    (step1 : ∀ k z s s0 p0, i ≤ k → k < n → cand k = some s → p0 < k → cand p0 = some s0 → L (z + 1) (nI p0) (nI k) M = L z (if s < s0 then nI k else nI p0) (nI (k + 1)) M)
    (stop : ∀ z v, L (z + 1) v (nI n) M = some (v, M)) : L fu (-1) (nI i) M = some (bp (scn cand n), M) := by
  have key := for_up (fun z (s : Int32 × Int32 × AM) => L z s.1 s.2.1 s.2.2) (fun k => (bp (scn cand (i + k)), nI (i + k), M)) (n - i) (bp (scn cand n), M)
    (fun k z hk => by
      show L (z + 1) (bp (scn cand (i + k))) (nI (i + k)) M = L z (bp (scn cand (i + (k + 1)))) (nI (i + (k + 1))) M
      rw [← Nat.add_assoc]
      cases hc : cand (i + k) with
      | none => rw [scn_n hc]; exact stepN _ _ _ (by omega) (by omega) hc
      | some s =>
        cases hs : scn cand (i + k) with
        | none => rw [scn_0 hc hs]; exact step0 _ _ s (by omega) (by omega) hc
        | some q =>
          obtain ⟨s0, p0⟩ := q
          obtain ⟨hp, hc0⟩ := scn_in hs
          rw [scn_1 hc hs]
          have := step1 (i + k) z s s0 p0 (by omega) (by omega) hc hp hc0
          show L (z + 1) (nI p0) (nI (i + k)) M = _
          rw [this]
          by_cases hlt : s < s0
          · rw [if_pos hlt, if_pos hlt]; rfl
          · rw [if_neg hlt, if_neg hlt]; rfl)
    (fun z => by
      show L (z + 1) (bp (scn cand (i + (n - i)))) (nI (i + (n - i))) M = _
      rw [show i + (n - i) = n by omega]
      exact stop z _) (n - i) 0 fu (by omega) (by rw [fu_eq]; omega)
  have e : L fu (bp (scn cand (i + 0))) (nI (i + 0)) M = some (bp (scn cand n), M) := key
  rw [Nat.add_zero, h0] at e
  exact e
/-- the best picture by a score -/
def pcd (D : DT) (f : Nat → Int32) (p : Nat) : Option Int32 := if thp D p = true then some (f p) else none
theorem pcd_some {D : DT} {f : Nat → Int32} {p : Nat} {s : Int32} (h : pcd D f p = some s) : thp D p = true ∧ s = f p := by
  unfold pcd at h
  by_cases q : thp D p = true
  · rw [if_pos q] at h; cases h; exact ⟨q, rfl⟩
  · rw [if_neg q] at h; cases h
theorem pcd_none {D : DT} {f : Nat → Int32} {p : Nat} (h : pcd D f p = none) : ¬ thp D p = true := by
  intro q
  unfold pcd at h
  rw [if_pos q] at h; cases h
def pbest (D : DT) (f : Nat → Int32) : Option (Int32 × Nat) := scn (pcd D f) 256
theorem pbest_ok {D : DT} {M : AM} (h : Rel D M) (f : Nat → Int32) {o : Option (Int32 × Nat)} (ho : IB (fun s p => ∃ k, 0 ≤ k ∧ k < 2 ^ D 0 1 ∧ k &&& D (10 + D 7 0) 1 = 0 ∧ True ∧ s = f (D (10 + D 7 0) 0 ^^^ xt (D 3) (D 0 1) k) ∧ p = D (10 + D 7 0) 0 ^^^ xt (D 3) (D 0 1) k) o) : o = pbest D f := by
  have h256 := p2_le h.1.1
  refine ho.uni ((scn_ok (pcd D f) 256).ext (fun s p => ⟨?_, ?_⟩))
  · rintro ⟨h1, h2⟩
    obtain ⟨h3, rfl⟩ := pcd_some h2
    obtain ⟨k, k1, k2, k3⟩ := (thp_iff h p).mp h3
    exact ⟨k, Nat.zero_le _, k1, k2, trivial, by rw [k3], k3⟩
  · rintro ⟨k, -, k1, k2, -, rfl, rfl⟩
    refine ⟨Nat.lt_of_lt_of_le (Nat.xor_lt_two_pow h.pic (xt_lt h.1 k _ (Nat.le_refl _))) h256, ?_⟩
    unfold pcd
    rw [if_pos ((thp_iff h _).mpr ⟨k, k1, k2, rfl⟩)]
theorem pbest_some {D : DT} {M : AM} (h : Rel D M) (f : Nat → Int32) : ∃ q, pbest D f = some q ∧ q.2 < 256 ∧ q.2 < 2 ^ D 0 0 := by
  have h256 := p2_le h.1.1
  cases hb : pbest D f with
  | none =>
    have h1 := scn_ok (pcd D f) 256
    unfold pbest at hb
    rw [hb] at h1
    refine absurd ⟨?_, if_pos ((thp_iff h (D (10 + D 7 0) 0 ^^^ xt (D 3) (D 0 1) 0)).mpr ⟨0, p2_pos _, Nat.zero_and _, rfl⟩)⟩ (h1 (f (D (10 + D 7 0) 0 ^^^ xt (D 3) (D 0 1) 0)) (D (10 + D 7 0) 0 ^^^ xt (D 3) (D 0 1) 0))
    exact Nat.lt_of_lt_of_le (Nat.xor_lt_two_pow h.pic (xt_lt h.1 0 _ (Nat.le_refl _))) h256
  | some q =>
    obtain ⟨s, p⟩ := q
    have h1 := scn_in (cand := pcd D f) (n := 256) hb
    refine ⟨_, rfl, h1.1, ?_⟩
    obtain ⟨h3, -⟩ := pcd_some h1.2
    obtain ⟨k, k1, k2, k3⟩ := (thp_iff h p).mp h3
    show p < _
    rw [k3]
    exact Nat.xor_lt_two_pow h.pic (xt_lt h.1 k _ (Nat.le_refl _))
