/-! the class's search, as numbers -/
def fst {α : Type} (f : Nat → α) (i : Nat) (v : α) : Nat → α := fun j => if j = i then v else f j
theorem fst_s {α : Type} (f : Nat → α) (i : Nat) (v : α) : fst f i v i = v := if_pos rfl
theorem fst_n {α : Type} {f : Nat → α} {i : Nat} {v : α} {j : Nat} (h : j ≠ i) : fst f i v j = f j := if_neg h
def BFI (G : GRT) (s i c0 Q : Nat) (g kf cb : Nat → Nat) (L : Nat → Option Nat) (R : Nat → Int32) (dn : Nat → Nat → Bool) : Prop :=
  (1 ≤ Q ∧ Q ≤ 256 ∧ g 0 = s ∧ L s = some 0) ∧
  (∀ j, j < Q → g j < 256 ∧ ∃ n, L (g j) = some n ∧ n ≤ j) ∧
  (∀ v n, L v = some n → ∃ j, j < Q ∧ g j = v) ∧
  (∀ j j', j < Q → j' < Q → g j = g j' → j = j') ∧
  (∀ j, 1 ≤ j → j < Q → kf j < j ∧ lex2 (kf j) (cb j) i c0 ∧ cb j < G.2.1 ∧ G.2.2.1 (cb j) = true ∧ g j = g (kf j) ^^^ G.1 (cb j) ∧ G.2.2.2 (g j) = true ∧ ∃ n, L (g (kf j)) = some n ∧ L (g j) = some (n + 1)) ∧
  (∀ i' c, i' < Q → lex2 i' c i c0 → c < G.2.1 → G.2.2.1 c = true → G.2.2.2 (g i' ^^^ G.1 c) = true → ∃ j, j < Q ∧ g j = g i' ^^^ G.1 c ∧ (j = 0 ∨ ¬ lex2 i' c (kf j) (cb j))) ∧
  (∀ j j', 1 ≤ j → j < j' → j' < Q → lex2 (kf j) (cb j) (kf j') (cb j')) ∧
  R s = 1 ∧ (∀ v n, L v = some (n + 1) → R v = smc (fun c => if G.2.2.1 c = true ∧ L (v ^^^ G.1 c) = some n ∧ dn (v ^^^ G.1 c) c = true then R (v ^^^ G.1 c) else 0) G.2.1) ∧ (∀ v, L v = none → R v = 0) ∧
  (∀ u c, c < G.2.1 → (dn u c = true ↔ G.2.2.1 c = true ∧ G.2.2.2 (u ^^^ G.1 c) = true ∧ ∃ i', i' < Q ∧ g i' = u ∧ lex2 i' c i c0))
section BFS
variable {G : GRT} {s i c0 Q : Nat} {g kf cb : Nat → Nat} {L : Nat → Option Nat} {R : Nat → Int32} {dn : Nat → Nat → Bool}
theorem BFI.mono (h : BFI G s i c0 Q g kf cb L R dn) : ∀ j', j' < Q → ∀ j n n', j ≤ j' → L (g j) = some n → L (g j') = some n' → n ≤ n' := by
  obtain ⟨h1, h2, h3, h4, h5, h6, h7, -⟩ := h
  intro j'
  induction j' using Nat.strongRecOn with
  | ind j' ih =>
    intro hj' j n n' hj hn hn'
    rcases Nat.eq_or_lt_of_le hj with e | e
    · rw [e, hn'] at hn; cases hn; exact Nat.le_refl _
    · rcases Nat.eq_zero_or_pos j with e0 | e0
      · rw [e0, h1.2.2.1, h1.2.2.2] at hn; cases hn; exact Nat.zero_le _
      · obtain ⟨a1, -, -, -, -, -, m, a2, a3⟩ := h5 j e0 (by omega)
        obtain ⟨b1, -, -, -, -, -, m', b2, b3⟩ := h5 j' (by omega) hj'
        rw [a3] at hn
        rw [b3] at hn'
        cases hn
        cases hn'
        have hl := h7 j j' e0 e hj'
        have hk : kf j ≤ kf j' := by unfold lex2 at hl; omega
        have := ih (kf j') b1 (by omega) (kf j) m m' hk a2 b2
        omega
theorem BFI.lvl (h : BFI G s i c0 Q g kf cb L R dn) {v n : Nat} (hv : L v = some n) : v < 256 ∧ n < 256 := by
  obtain ⟨j, j1, j2⟩ := h.2.2.1 v n hv
  obtain ⟨a1, m, a2, a3⟩ := h.2.1 j j1
  rw [j2] at a1 a2
  rw [hv] at a2
  cases a2
  have := h.1.2.1
  exact ⟨a1, by omega⟩
/-- a picture that is not there yet has room in the queue -/
theorem BFI.room (h : BFI G s i c0 Q g kf cb L R dn) {v : Nat} (hv : v < 256) (hn : L v = none) : Q < 256 := by
  have hle := cnt_inj (m := 256) Q (fun k => true && decide (k ≠ v)) (fun _ => true) g (fun k hk _ => ⟨(h.2.1 k hk).1, by
    obtain ⟨-, m, a2, -⟩ := h.2.1 k hk
    have : g k ≠ v := fun e => by rw [e, hn] at a2; cases a2
    simp [this]⟩) (fun j k hj hk _ _ e => h.2.2.2.1 j k hj hk e)
  have h1 := (cnt_out (P := fun _ => true) (m0 := v) 256).1 hv rfl
  have h2 : ∀ n, cnt (fun _ => true) n = n := fun n => (cnt_all n).mpr (fun _ _ => rfl)
  rw [h2] at h1
  rw [h2] at hle
  omega
theorem lex2_s {a b i c : Nat} : lex2 a b i (c + 1) ↔ lex2 a b i c ∨ (a = i ∧ b = c) := by
  unfold lex2
  omega
theorem BFI.skip (h : BFI G s i c0 Q g kf cb L R dn) (hi : i < Q) (hno : ¬ (G.2.2.1 c0 = true ∧ G.2.2.2 (g i ^^^ G.1 c0) = true)) : BFI G s i (c0 + 1) Q g kf cb L R dn := by
  obtain ⟨h1, h2, h3, h4, h5, h6, h7, h8, h9, h10, h11⟩ := h
  refine ⟨h1, h2, h3, h4, fun j a b => ?_, fun i' c a b d e f => ?_, h7, h8, h9, h10, fun u c hc => ?_⟩
  · obtain ⟨x1, x2, x3⟩ := h5 j a b
    exact ⟨x1, lex2_s.mpr (Or.inl x2), x3⟩
  · rcases lex2_s.mp b with b | ⟨rfl, rfl⟩
    · exact h6 i' c a b d e f
    · exact absurd ⟨e, f⟩ hno
  · rw [h11 u c hc]
    constructor
    · rintro ⟨x1, x2, i', x3, x4, x5⟩
      exact ⟨x1, x2, i', x3, x4, lex2_s.mpr (Or.inl x5)⟩
    · rintro ⟨x1, x2, i', x3, x4, x5⟩
      rcases lex2_s.mp x5 with x5 | ⟨rfl, rfl⟩
      · exact ⟨x1, x2, i', x3, x4, x5⟩
      · rw [← x4] at x2
        exact absurd ⟨x1, x2⟩ hno
theorem BFI.row (h : BFI G s i G.2.1 Q g kf cb L R dn) : BFI G s (i + 1) 0 Q g kf cb L R dn := by
  obtain ⟨h1, h2, h3, h4, h5, h6, h7, h8, h9, h10, h11⟩ := h
  have hlx : ∀ a b, b < G.2.1 → (lex2 a b (i + 1) 0 ↔ lex2 a b i G.2.1) := fun a b hb => by unfold lex2; omega
  refine ⟨h1, h2, h3, h4, fun j a b => ?_, fun i' c a b d e f => ?_, h7, h8, h9, h10, fun u c hc => ?_⟩
  · obtain ⟨x1, x2, x3, x4⟩ := h5 j a b
    exact ⟨x1, (hlx _ _ x3).mpr x2, x3, x4⟩
  · exact h6 i' c a ((hlx _ _ d).mp b) d e f
  · rw [h11 u c hc]
    constructor
    · rintro ⟨x1, x2, i', x3, x4, x5⟩
      exact ⟨x1, x2, i', x3, x4, (hlx _ _ hc).mpr x5⟩
    · rintro ⟨x1, x2, i', x3, x4, x5⟩
      exact ⟨x1, x2, i', x3, x4, (hlx _ _ hc).mp x5⟩
def dn1 (dn : Nat → Nat → Bool) (u c0 : Nat) : Nat → Nat → Bool := fun x c => dn x c || (decide (x = u) && decide (c = c0))
theorem dn1_iff {u x c : Nat} : dn1 dn u c0 x c = true ↔ dn x c = true ∨ (x = u ∧ c = c0) := by
  unfold dn1
  rw [Bool.or_eq_true, Bool.and_eq_true, decide_eq_true_iff, decide_eq_true_iff]
/-- one sum grows by one term -/
theorem sum_upd {u v n : Nat} {L' : Nat → Option Nat} {R' : Nat → Int32} (hc : c0 < G.2.1) (hf : G.2.2.1 c0 = true) (hv : v = u ^^^ G.1 c0) (hu : L u = some n) (hL' : L' v = some (n + 1)) (hL : ∀ w, w ≠ v → L' w = L w) (hLv : L v ≠ some n) (hR' : R' v = R v + R u) (hR : ∀ w, w ≠ v → R' w = R w) (hd : dn u c0 = false) (hdv : ∀ c, c < G.2.1 → dn v c = false)
    (hold : R v = smc (fun c => if G.2.2.1 c = true ∧ L (v ^^^ G.1 c) = some n ∧ dn (v ^^^ G.1 c) c = true then R (v ^^^ G.1 c) else 0) G.2.1)
    (hall : ∀ w k, L w = some (k + 1) → R w = smc (fun c => if G.2.2.1 c = true ∧ L (w ^^^ G.1 c) = some k ∧ dn (w ^^^ G.1 c) c = true then R (w ^^^ G.1 c) else 0) G.2.1) :
    ∀ w k, L' w = some (k + 1) → R' w = smc (fun c => if G.2.2.1 c = true ∧ L' (w ^^^ G.1 c) = some k ∧ dn1 dn u c0 (w ^^^ G.1 c) c = true then R' (w ^^^ G.1 c) else 0) G.2.1 := by
  have huv : u ≠ v := fun e => by rw [e] at hu; exact hLv hu
  have hvu : v ^^^ G.1 c0 = u := by rw [hv, xrs]
  intro w k hw
  by_cases e : w = v
  · subst e
    rw [hL'] at hw
    cases hw
    rw [hR', hold]
    refine (smc_upd (c0 := c0) G.2.1 hc (fun c hcn hne => ?_) ?_).symm
    · have hb : dn1 dn u c0 (w ^^^ G.1 c) c = dn (w ^^^ G.1 c) c := by
        unfold dn1; simp [hne]
      rw [hb]
      by_cases ex : w ^^^ G.1 c = w
      · rw [ex, if_neg (fun z => by rw [hL'] at z; have := z.2.1; cases this), if_neg (fun z => hLv z.2.1)]
      · rw [hL _ ex, hR _ ex]
    · rw [hvu, if_pos ⟨hf, by rw [hL _ huv]; exact hu, dn1_iff.mpr (Or.inr ⟨rfl, rfl⟩)⟩, if_neg (fun z => by rw [hd] at z; cases z.2.2), hR _ huv, Int32.zero_add]
  · rw [hL _ e] at hw
    rw [hR _ e, hall w k hw]
    refine smc_ext _ (fun c hcn => ?_)
    by_cases ex : w ^^^ G.1 c = v
    · rw [ex, if_neg (fun z => by rw [hdv c hcn] at z; cases z.2.2), if_neg (fun z => ?_)]
      rcases dn1_iff.mp z.2.2 with y | y
      · rw [hdv c hcn] at y; cases y
      · exact huv y.1.symm
    · have hb : dn1 dn u c0 (w ^^^ G.1 c) c = dn (w ^^^ G.1 c) c := by
        unfold dn1
        by_cases e1 : w ^^^ G.1 c = u
        · by_cases e2 : c = c0
          · exfalso
            rw [e2] at e1
            exact e (by rw [hv, ← e1, xrs])
          · simp [e2]
        · simp [e1]
      rw [hb, hL _ ex, hR _ ex]
theorem BFI.dnf (h : BFI G s i c0 Q g kf cb L R dn) (hi : i < Q) (hc : c0 < G.2.1) : dn (g i) c0 = false := by
  cases hd : dn (g i) c0 with
  | false => rfl
  | true =>
    obtain ⟨-, -, i', a1, a2, a3⟩ := (h.2.2.2.2.2.2.2.2.2.2 _ _ hc).mp hd
    have := h.2.2.2.1 i' i a1 hi a2
    unfold lex2 at a3
    omega
theorem BFI.dnm (h : BFI G s i c0 Q g kf cb L R dn) (hi : i < Q) {u c : Nat} (hc : c < G.2.1) (hd : dn u c = true) : G.2.2.2 (u ^^^ G.1 c) = true ∧ ∃ i', i' < Q ∧ g i' = u ∧ i' ≤ i ∧ ∃ j, j < Q ∧ g j = u ^^^ G.1 c := by
  obtain ⟨b1, b2, i', a1, a2, a3⟩ := (h.2.2.2.2.2.2.2.2.2.2 _ _ hc).mp hd
  obtain ⟨j, j1, j2, -⟩ := h.2.2.2.2.2.1 i' c a1 a3 hc b1 (by rw [a2]; exact b2)
  exact ⟨b2, i', a1, a2, by unfold lex2 at a3; omega, j, j1, by rw [j2, a2]⟩
theorem dn1_ok (h : BFI G s i c0 Q g kf cb L R dn) (hi : i < Q) (hf : G.2.2.1 c0 = true) (ho : G.2.2.2 (g i ^^^ G.1 c0) = true) : ∀ u c, c < G.2.1 → (dn1 dn (g i) c0 u c = true ↔ G.2.2.1 c = true ∧ G.2.2.2 (u ^^^ G.1 c) = true ∧ ∃ i', i' < Q ∧ g i' = u ∧ lex2 i' c i (c0 + 1)) := by
  intro u c hc
  rw [dn1_iff, h.2.2.2.2.2.2.2.2.2.2 u c hc]
  constructor
  · rintro (⟨x1, x2, i', x3, x4, x5⟩ | ⟨rfl, rfl⟩)
    · exact ⟨x1, x2, i', x3, x4, lex2_s.mpr (Or.inl x5)⟩
    · exact ⟨hf, ho, i, hi, rfl, lex2_s.mpr (Or.inr ⟨rfl, rfl⟩)⟩
  · rintro ⟨x1, x2, i', x3, x4, x5⟩
    rcases lex2_s.mp x5 with x5 | ⟨rfl, rfl⟩
    · exact Or.inl ⟨x1, x2, i', x3, x4, x5⟩
    · exact Or.inr ⟨x4.symm, rfl⟩
/-- a picture that was come to before -/
theorem BFI.seen (h : BFI G s i c0 Q g kf cb L R dn) (hi : i < Q) (hc : c0 < G.2.1) (hf : G.2.2.1 c0 = true) (ho : G.2.2.2 (g i ^^^ G.1 c0) = true) {n m : Nat} (hn : L (g i) = some n) (hm : L (g i ^^^ G.1 c0) = some m) : BFI G s i (c0 + 1) Q g kf cb L (if m = n + 1 then fst R (g i ^^^ G.1 c0) (R (g i ^^^ G.1 c0) + R (g i)) else R) (dn1 dn (g i) c0) := by
  have hdn := dn1_ok h hi hf ho
  have hdf := h.dnf hi hc
  have hmono := h.mono
  have hdnm := fun u c => h.dnm (u := u) (c := c) hi
  obtain ⟨h1, h2, h3, h4, h5, h6, h7, h8, h9, h10, h11⟩ := h
  have hsum : ∀ v k, L v = some (k + 1) → (if m = n + 1 then fst R (g i ^^^ G.1 c0) (R (g i ^^^ G.1 c0) + R (g i)) else R) v = smc (fun c => if G.2.2.1 c = true ∧ L (v ^^^ G.1 c) = some k ∧ dn1 dn (g i) c0 (v ^^^ G.1 c) c = true then (if m = n + 1 then fst R (g i ^^^ G.1 c0) (R (g i ^^^ G.1 c0) + R (g i)) else R) (v ^^^ G.1 c) else 0) G.2.1 := by
    by_cases e : m = n + 1
    · rw [if_pos e]
      rw [e] at hm
      refine sum_upd (L' := L) (v := g i ^^^ G.1 c0) hc hf rfl hn hm (fun w _ => rfl) (fun z => by rw [hm] at z; cases z) (fst_s _ _ _) (fun w hw => fst_n hw) hdf (fun c hcn => ?_) (h9 _ _ hm) h9
      cases hd : dn (g i ^^^ G.1 c0) c with
      | false => rfl
      | true =>
        obtain ⟨-, i', a1, a2, a3, -⟩ := hdnm _ c hcn hd
        have := hmono i hi i' (n + 1) n a3 (by rw [a2]; exact hm) hn
        omega
    · rw [if_neg e]
      intro v k hv
      rw [h9 v k hv]
      refine smc_ext _ (fun c hcn => ?_)
      by_cases e1 : v ^^^ G.1 c = g i ∧ c = c0
      · have ev : v = g i ^^^ G.1 c0 := by rw [← e1.1, e1.2, xrs]
        rw [← ev, hv] at hm
        cases hm
        rw [e1.1, hn, if_neg (fun z => by have := z.2.1; cases this; omega), if_neg (fun z => by have := z.2.1; cases this; omega)]
      · have hb : dn1 dn (g i) c0 (v ^^^ G.1 c) c = dn (v ^^^ G.1 c) c := by
          unfold dn1
          by_cases y1 : v ^^^ G.1 c = g i
          · have y2 : c ≠ c0 := fun z => e1 ⟨y1, z⟩
            simp [y2]
          · simp [y1]
        rw [hb]
  have hne : ∀ v, L v = none → v ≠ g i ^^^ G.1 c0 := fun v hv e => by rw [e, hm] at hv; cases hv
  refine ⟨h1, h2, h3, h4, fun j a b => ?_, fun i' c a b d e f => ?_, h7, ?_, hsum, fun v hv => ?_, hdn⟩
  · obtain ⟨x1, x2, x3⟩ := h5 j a b
    exact ⟨x1, lex2_s.mpr (Or.inl x2), x3⟩
  · rcases lex2_s.mp b with b | ⟨rfl, rfl⟩
    · exact h6 i' c a b d e f
    · obtain ⟨j, j1, j2⟩ := h3 _ _ hm
      refine ⟨j, j1, j2, ?_⟩
      rcases Nat.eq_zero_or_pos j with e0 | e0
      · exact Or.inl e0
      · right
        have := (h5 j e0 j1).2.1
        unfold lex2 at this ⊢
        omega
  · by_cases e : m = n + 1
    · rw [if_pos e, fst_n, h8]
      intro z
      rw [← z, h1.2.2.2] at hm
      cases hm
      omega
    · rw [if_neg e]; exact h8
  · by_cases e : m = n + 1
    · rw [if_pos e, fst_n (hne v hv)]; exact h10 v hv
    · rw [if_neg e]; exact h10 v hv
/-- a new picture -/
theorem BFI.new (h : BFI G s i c0 Q g kf cb L R dn) (hi : i < Q) (hc : c0 < G.2.1) (hf : G.2.2.1 c0 = true) (ho : G.2.2.2 (g i ^^^ G.1 c0) = true) {n : Nat} (hn : L (g i) = some n) (hm : L (g i ^^^ G.1 c0) = none) (h256 : g i ^^^ G.1 c0 < 256) : BFI G s i (c0 + 1) (Q + 1) (fst g Q (g i ^^^ G.1 c0)) (fst kf Q i) (fst cb Q c0) (fst L (g i ^^^ G.1 c0) (some (n + 1))) (fst R (g i ^^^ G.1 c0) (R (g i ^^^ G.1 c0) + R (g i))) (dn1 dn (g i) c0) := by
  have hdn := dn1_ok h hi hf ho
  have hdf := h.dnf hi hc
  have hroom := h.room h256 hm
  have hdnm := fun u c => h.dnm (u := u) (c := c) hi
  obtain ⟨h1, h2, h3, h4, h5, h6, h7, h8, h9, h10, h11⟩ := h
  generalize hv : g i ^^^ G.1 c0 = v at *
  have hnot : ∀ j, j < Q → g j ≠ v := fun j hj e => by
    obtain ⟨-, k, a, -⟩ := h2 j hj
    rw [e, hm] at a; cases a
  have hgl : ∀ j, j < Q → fst g Q v j = g j := fun j hj => fst_n (by omega)
  have hLl : ∀ w, w ≠ v → fst L v (some (n + 1)) w = L w := fun w hw => fst_n hw
  have hnv : ∀ w k, L w = some k → w ≠ v := fun w k hw e => by rw [e, hm] at hw; cases hw
  have hsum : ∀ w k, fst L v (some (n + 1)) w = some (k + 1) → fst R v (R v + R (g i)) w = smc (fun c => if G.2.2.1 c = true ∧ fst L v (some (n + 1)) (w ^^^ G.1 c) = some k ∧ dn1 dn (g i) c0 (w ^^^ G.1 c) c = true then fst R v (R v + R (g i)) (w ^^^ G.1 c) else 0) G.2.1 := by
    have hdv : ∀ c, c < G.2.1 → dn v c = false := fun c hcn => by
      cases hd : dn v c with
      | false => rfl
      | true =>
        obtain ⟨-, i', a1, a2, -⟩ := hdnm _ c hcn hd
        exact absurd a2 (hnot i' a1)
    refine sum_upd hc hf hv.symm hn (fst_s _ _ _) (fun w hw => fst_n hw) (by rw [hm]; exact fun z => by cases z) (fst_s _ _ _) (fun w hw => fst_n hw) hdf hdv ?_ h9
    rw [h10 v hm, smc_0]
    intro c hcn
    rw [if_neg]
    rintro ⟨-, -, z⟩
    obtain ⟨-, i', a1, a2, -, j, j1, j2⟩ := hdnm _ c hcn z
    rw [xrs] at j2
    exact hnot j j1 j2
  refine ⟨⟨by omega, by omega, by rw [hgl 0 (by omega)]; exact h1.2.2.1, by rw [hLl s (hnv s 0 h1.2.2.2)]; exact h1.2.2.2⟩, fun j hj => ?_, fun w k hw => ?_, fun j j' hj hj' e => ?_, fun j a b => ?_, fun i' c a b d e f => ?_, fun j j' a b d => ?_, ?_, hsum, fun w hw => ?_, fun u c hcn => ?_⟩
  · by_cases e : j = Q
    · rw [e, fst_s, fst_s]
      obtain ⟨-, k, a1, a2⟩ := h2 i hi
      rw [hn] at a1
      cases a1
      exact ⟨h256, n + 1, rfl, by omega⟩
    · rw [hgl j (by omega), hLl _ (hnot j (by omega))]
      exact h2 j (by omega)
  · by_cases e : w = v
    · exact ⟨Q, by omega, by rw [fst_s]; exact e.symm⟩
    · rw [hLl w e] at hw
      obtain ⟨j, j1, j2⟩ := h3 w k hw
      exact ⟨j, by omega, by rw [hgl j j1]; exact j2⟩
  · by_cases e1 : j = Q
    · by_cases e2 : j' = Q
      · omega
      · rw [e1, fst_s, hgl j' (by omega)] at e
        exact absurd e.symm (hnot j' (by omega))
    · by_cases e2 : j' = Q
      · rw [e2, fst_s, hgl j (by omega)] at e
        exact absurd e (hnot j (by omega))
      · rw [hgl j (by omega), hgl j' (by omega)] at e
        exact h4 j j' (by omega) (by omega) e
  · by_cases e : j = Q
    · rw [e, fst_s, fst_s, fst_s, hgl i hi, fst_s, hLl _ (hnot i hi)]
      exact ⟨hi, lex2_s.mpr (Or.inr ⟨rfl, rfl⟩), hc, hf, hv.symm, ho, n, hn, rfl⟩
    · obtain ⟨x1, x2, x3, x4, x5, x6, k, x7, x8⟩ := h5 j a (by omega)
      rw [fst_n e, fst_n e, hgl j (by omega), hgl (kf j) (by omega), hLl _ (hnot _ (by omega)), hLl _ (hnot _ (by omega))]
      exact ⟨x1, lex2_s.mpr (Or.inl x2), x3, x4, x5, x6, k, x7, x8⟩
  · have hi'Q : i' ≠ Q := fun z => by
      rw [z] at b
      unfold lex2 at b
      omega
    rw [hgl i' (by omega)] at f ⊢
    rcases lex2_s.mp b with b | ⟨rfl, rfl⟩
    · obtain ⟨j, j1, j2, j3⟩ := h6 i' c (by omega) b d e f
      refine ⟨j, by omega, by rw [hgl j j1]; exact j2, ?_⟩
      rw [fst_n (by omega), fst_n (by omega)]
      exact j3
    · refine ⟨Q, by omega, by rw [fst_s]; exact hv.symm, Or.inr ?_⟩
      rw [fst_s, fst_s]
      unfold lex2
      omega
  · by_cases e : j' = Q
    · rw [e, fst_s, fst_s, fst_n (by omega), fst_n (by omega)]
      exact (h5 j a (by omega)).2.1
    · rw [fst_n (by omega), fst_n (by omega), fst_n e, fst_n e]
      exact h7 j j' a b (by omega)
  · rw [fst_n (hnv s 0 h1.2.2.2)]; exact h8
  · by_cases e : w = v
    · rw [e, fst_s] at hw; cases hw
    · rw [hLl w e] at hw
      rw [fst_n e]; exact h10 w hw
  · rw [hdn u c hcn]
    constructor
    · rintro ⟨x1, x2, i', x3, x4, x5⟩
      exact ⟨x1, x2, i', by omega, by rw [hgl i' x3]; exact x4, x5⟩
    · rintro ⟨x1, x2, i', x3, x4, x5⟩
      have hi'Q : i' ≠ Q := fun z => by
        rw [z] at x5
        unfold lex2 at x5
        omega
      rw [hgl i' (by omega)] at x4
      exact ⟨x1, x2, i', by omega, x4, x5⟩
end BFS
/-- all is gone through -/
theorem BFI.done {G : GRT} {s Q : Nat} {g kf cb : Nat → Nat} {L : Nat → Option Nat} {R : Nat → Int32} {dn : Nat → Nat → Bool} (h : BFI G s Q 0 Q g kf cb L R dn) : FWD G s L R ∧ ∃ ps, CAM G L ps (fun v => g (kf (ps v))) (fun v => cb (ps v)) ∧ ∀ v n, L v = some n → ps v < Q ∧ g (ps v) = v ∧ (1 ≤ n → 1 ≤ ps v) := by
  have hmono := h.mono
  obtain ⟨h1, h2, h3, h4, h5, h6, h7, h8, h9, h10, h11⟩ := h
  have hlx : ∀ a b, a < Q → lex2 a b Q 0 := fun a b ha => Or.inl ha
  obtain ⟨ps, hps⟩ := Classical.axiomOfChoice (r := fun (v : Nat) (j : Nat) => ∀ n, L v = some n → j < Q ∧ g j = v) (fun v => by
    cases hv : L v with
    | none => exact ⟨0, fun n e => by cases e⟩
    | some n =>
      obtain ⟨j, j1, j2⟩ := h3 v n hv
      exact ⟨j, fun _ _ => ⟨j1, j2⟩⟩)
  have hpos : ∀ v n, L v = some (n + 1) → 1 ≤ ps v := fun v n hv => by
    obtain ⟨a, b⟩ := hps v _ hv
    rcases Nat.eq_zero_or_pos (ps v) with e | e
    · rw [e, h1.2.2.1] at b
      rw [← b, h1.2.2.2] at hv
      cases hv
    · exact e
  have hidx : ∀ j n, j < Q → L (g j) = some n → ps (g j) = j := fun j n hj hn => by
    obtain ⟨a, b⟩ := hps _ n hn
    exact h4 _ _ a hj b
  refine ⟨⟨h1.2.2.2, fun v n c hv hc hf ho => ?_, fun v hv => ?_, fun v n hv => ?_, h8, fun v n hv => ?_⟩, ps, ⟨fun v m hv => ?_, fun u c v m hu hv hc hf e => ?_, fun v v' m m' hv hv' hl => ?_⟩, fun v n hv => ⟨(hps v n hv).1, (hps v n hv).2, fun hn => by obtain ⟨k, rfl⟩ : ∃ k, n = k + 1 := ⟨n - 1, by omega⟩; exact hpos v k hv⟩⟩
  · obtain ⟨j, j1, j2⟩ := h3 v n hv
    rw [← j2] at ho hv ⊢
    obtain ⟨j', a1, a2, a3⟩ := h6 j c j1 (hlx _ _ j1) hc hf ho
    obtain ⟨-, m, b1, -⟩ := h2 j' a1
    rw [← a2]
    refine ⟨m, b1, ?_⟩
    rcases Nat.eq_zero_or_pos j' with e | e
    · rw [e, h1.2.2.1, h1.2.2.2] at b1; cases b1; omega
    · obtain ⟨x1, -, -, -, -, -, k, x7, x8⟩ := h5 j' e a1
      rw [x8] at b1
      cases b1
      have hk : kf j' ≤ j := by
        rcases a3 with a3 | a3
        · omega
        · unfold lex2 at a3; omega
      have := hmono j j1 (kf j') k n hk x7 hv
      omega
  · obtain ⟨j, j1, j2⟩ := h3 v 0 hv
    rcases Nat.eq_zero_or_pos j with e | e
    · rw [← j2, e]; exact h1.2.2.1
    · obtain ⟨x1, -, -, -, -, -, k, x7, x8⟩ := h5 j e j1
      rw [j2, hv] at x8; cases x8
  · have p1 := hpos v n hv
    obtain ⟨a, b⟩ := hps v _ hv
    obtain ⟨x1, -, x3, x4, x5, x6, k, x7, x8⟩ := h5 _ p1 a
    rw [b] at x5 x6 x8
    rw [hv] at x8
    cases x8
    refine ⟨x6, _, x3, x4, ?_⟩
    have e := congrArg (fun y => y ^^^ G.1 (cb (ps v))) x5
    simp only [xrs] at e
    rw [e]; exact x7
  · rw [h9 v n hv]
    refine smc_ext _ (fun c hc => ?_)
    by_cases e : G.2.2.1 c = true ∧ L (v ^^^ G.1 c) = some n
    · obtain ⟨j, j1, j2⟩ := h3 _ n e.2
      have p1 := hpos v n hv
      obtain ⟨a, b⟩ := hps v _ hv
      have ho : G.2.2.2 v = true := by rw [← b]; exact (h5 _ p1 a).2.2.2.2.2.1
      rw [if_pos e, if_pos ⟨e.1, e.2, (h11 _ c hc).mpr ⟨e.1, by rw [xrs]; exact ho, j, j1, j2, hlx _ _ j1⟩⟩]
    · rw [if_neg e, if_neg (fun z => e ⟨z.1, z.2.1⟩)]
  · have p1 := hpos v m hv
    obtain ⟨a, b⟩ := hps v _ hv
    obtain ⟨x1, -, x3, x4, x5, x6, k, x7, x8⟩ := h5 _ p1 a
    rw [b] at x5 x6 x8
    rw [hv] at x8
    cases x8
    exact ⟨x7, x3, x4, x5, x6⟩
  · have p1 := hpos v m hv
    obtain ⟨a, b⟩ := hps v _ hv
    obtain ⟨a', b'⟩ := hps u _ hu
    obtain ⟨x1, -, x3, x4, x5, x6, k, x7, x8⟩ := h5 _ p1 a
    rw [b] at x6
    obtain ⟨j, j1, j2, j3⟩ := h6 (ps u) c a' (hlx _ _ a') hc hf (by rw [b', ← e]; exact x6)
    rw [b', ← e] at j2
    have ej : j = ps v := h4 _ _ j1 a (by rw [j2, b])
    rw [ej] at j3
    show ¬ lex2 (ps u) c (ps (g (kf (ps v)))) (cb (ps v))
    rw [hidx _ k (by omega) x7]
    rcases j3 with j3 | j3
    · omega
    · exact j3
  · have p1 := hpos v m hv
    obtain ⟨a, b⟩ := hps v _ hv
    have p1' := hpos v' m' hv'
    obtain ⟨a', b'⟩ := hps v' _ hv'
    obtain ⟨x1, -, -, -, -, -, k, x7, -⟩ := h5 _ p1 a
    obtain ⟨x1', -, -, -, -, -, k', x7', -⟩ := h5 _ p1' a'
    have hl' : lex2 (ps (g (kf (ps v)))) (cb (ps v)) (ps (g (kf (ps v')))) (cb (ps v')) := hl
    rw [hidx _ k (by omega) x7, hidx _ k' (by omega) x7'] at hl'
    rcases Nat.lt_trichotomy (ps v) (ps v') with e | e | e
    · exact e
    · rw [e] at hl'; unfold lex2 at hl'; omega
    · have := h7 _ _ p1' e a
      unfold lex2 at hl' this
      omega
