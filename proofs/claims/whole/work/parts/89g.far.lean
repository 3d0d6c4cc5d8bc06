/-! the reference's search -/
def pzd (n p0 c0 k u c : Nat) : Prop := k < n ∨ (k = n ∧ (u < p0 ∨ (u = p0 ∧ c < c0)))
def BWI (G : GRT) (t W n p0 c0 : Nat) (B : Nat → Option Nat) (H : Nat → Int32) (dn : Nat → Nat → Bool) : Prop :=
  (B t = some 0 ∧ ∀ v, B v = some 0 → v = t) ∧
  (∀ v k, B v = some k → v < W ∧ k ≤ n + 1) ∧
  (∀ u c k, B u = some k → pzd n p0 c0 k u c → G.2.2.2 u = true → c < G.2.1 → G.2.2.1 c = true → ∃ m, B (u ^^^ G.1 c) = some m ∧ m ≤ k + 1) ∧
  (∀ v k, B v = some (k + 1) → ∃ c, c < G.2.1 ∧ G.2.2.1 c = true ∧ G.2.2.2 (v ^^^ G.1 c) = true ∧ B (v ^^^ G.1 c) = some k) ∧
  H t = 1 ∧ (∀ v k, B v = some (k + 1) → H v = smc (fun c => if G.2.2.1 c = true ∧ B (v ^^^ G.1 c) = some k ∧ dn (v ^^^ G.1 c) c = true then H (v ^^^ G.1 c) else 0) G.2.1) ∧ (∀ v, B v = none → H v = 0) ∧
  (∀ u c, c < G.2.1 → (dn u c = true ↔ G.2.2.1 c = true ∧ G.2.2.2 u = true ∧ ∃ k, B u = some k ∧ pzd n p0 c0 k u c))
section BWS
variable {G : GRT} {t W n p0 c0 : Nat} {B : Nat → Option Nat} {H : Nat → Int32} {dn : Nat → Nat → Bool}
/-- going on where nothing is done -/
theorem BWI.move {n' p' c' : Nat} (h : BWI G t W n p0 c0 B H dn) (hn : n ≤ n') (hp : ∀ u c k, B u = some k → G.2.2.2 u = true → c < G.2.1 → G.2.2.1 c = true → (pzd n' p' c' k u c ↔ pzd n p0 c0 k u c)) : BWI G t W n' p' c' B H dn := by
  obtain ⟨h1, h2, h3, h4, h5, h6, h7, h8⟩ := h
  refine ⟨h1, fun v k hv => ⟨(h2 v k hv).1, by have := (h2 v k hv).2; omega⟩, fun u c k hu hz ho hc hf => h3 u c k hu ((hp u c k hu ho hc hf).mp hz) ho hc hf, h4, h5, h6, h7, fun u c hc => ?_⟩
  rw [h8 u c hc]
  constructor
  · rintro ⟨x1, x2, k, x3, x4⟩
    exact ⟨x1, x2, k, x3, (hp u c k x3 x2 hc x1).mpr x4⟩
  · rintro ⟨x1, x2, k, x3, x4⟩
    exact ⟨x1, x2, k, x3, (hp u c k x3 x2 hc x1).mp x4⟩
theorem pzd_s {k u c : Nat} : pzd n p0 (c0 + 1) k u c ↔ pzd n p0 c0 k u c ∨ (k = n ∧ u = p0 ∧ c = c0) := by
  unfold pzd
  omega
theorem BWI.dnf (h : BWI G t W n p0 c0 B H dn) (hp : B p0 = some n) (hc : c0 < G.2.1) : dn p0 c0 = false := by
  cases hd : dn p0 c0 with
  | false => rfl
  | true =>
    obtain ⟨-, -, k, a1, a2⟩ := (h.2.2.2.2.2.2.2 _ _ hc).mp hd
    rw [hp] at a1
    cases a1
    unfold pzd at a2
    omega
theorem BWI.dnv (h : BWI G t W n p0 c0 B H dn) {v c : Nat} (hv : B v = none ∨ B v = some (n + 1)) (hc : c < G.2.1) : dn v c = false := by
  cases hd : dn v c with
  | false => rfl
  | true =>
    obtain ⟨-, -, k, a1, a2⟩ := (h.2.2.2.2.2.2.2 _ _ hc).mp hd
    rcases hv with hv | hv
    · rw [hv] at a1; cases a1
    · rw [hv] at a1
      cases a1
      unfold pzd at a2
      omega
theorem BWI.dnx (h : BWI G t W n p0 c0 B H dn) (hp : B p0 = some n) (ho : G.2.2.2 p0 = true) (hf : G.2.2.1 c0 = true) : ∀ u c, c < G.2.1 → (dn1 dn p0 c0 u c = true ↔ G.2.2.1 c = true ∧ G.2.2.2 u = true ∧ ∃ k, B u = some k ∧ pzd n p0 (c0 + 1) k u c) := by
  intro u c hc
  rw [dn1_iff, h.2.2.2.2.2.2.2 u c hc]
  constructor
  · rintro (⟨x1, x2, k, x3, x4⟩ | ⟨rfl, rfl⟩)
    · exact ⟨x1, x2, k, x3, pzd_s.mpr (Or.inl x4)⟩
    · exact ⟨hf, ho, n, hp, pzd_s.mpr (Or.inr ⟨rfl, rfl, rfl⟩)⟩
  · rintro ⟨x1, x2, k, x3, x4⟩
    rcases pzd_s.mp x4 with x4 | ⟨x4, x5, x6⟩
    · exact Or.inl ⟨x1, x2, k, x3, x4⟩
    · exact Or.inr ⟨x5, x6⟩
/-- a picture that is as near already -/
theorem BWI.near (h : BWI G t W n p0 c0 B H dn) (hp : B p0 = some n) (ho : G.2.2.2 p0 = true) (hf : G.2.2.1 c0 = true) {m : Nat} (hm : B (p0 ^^^ G.1 c0) = some m) (hmn : m ≤ n) : BWI G t W n p0 (c0 + 1) B H (dn1 dn p0 c0) := by
  have hd1 := h.dnx hp ho hf
  obtain ⟨h1, h2, h3, h4, h5, h6, h7, h8⟩ := h
  refine ⟨h1, h2, fun u c k hu hz hou hc hfc => ?_, h4, h5, fun v k hv => ?_, h7, hd1⟩
  · rcases pzd_s.mp hz with hz | ⟨rfl, rfl, rfl⟩
    · exact h3 u c k hu hz hou hc hfc
    · exact ⟨m, hm, by omega⟩
  · rw [h6 v k hv]
    refine smc_ext _ (fun c hcn => ?_)
    by_cases e1 : v ^^^ G.1 c = p0 ∧ c = c0
    · have ev : v = p0 ^^^ G.1 c0 := by rw [← e1.1, e1.2, xrs]
      rw [← ev, hv] at hm
      cases hm
      rw [e1.1, hp, if_neg (fun z => by have := z.2.1; cases this; omega), if_neg (fun z => by have := z.2.1; cases this; omega)]
    · have hb : dn1 dn p0 c0 (v ^^^ G.1 c) c = dn (v ^^^ G.1 c) c := by
        unfold dn1
        by_cases y1 : v ^^^ G.1 c = p0
        · have y2 : c ≠ c0 := fun z => e1 ⟨y1, z⟩
          simp [y2]
        · simp [y1]
      rw [hb]
/-- a picture that is one pull further -/
theorem BWI.far (h : BWI G t W n p0 c0 B H dn) (hp : B p0 = some n) (ho : G.2.2.2 p0 = true) (hc : c0 < G.2.1) (hf : G.2.2.1 c0 = true) (hv : B (p0 ^^^ G.1 c0) = none ∨ B (p0 ^^^ G.1 c0) = some (n + 1)) (hW : p0 ^^^ G.1 c0 < W) : BWI G t W n p0 (c0 + 1) (fst B (p0 ^^^ G.1 c0) (some (n + 1))) (fst H (p0 ^^^ G.1 c0) (H (p0 ^^^ G.1 c0) + H p0)) (dn1 dn p0 c0) := by
  have hd1 := h.dnx hp ho hf
  have hdf := h.dnf hp hc
  have hdv := fun c => h.dnv (c := c) hv
  obtain ⟨h1, h2, h3, h4, h5, h6, h7, h8⟩ := h
  generalize hve : p0 ^^^ G.1 c0 = v at *
  have hpv : p0 ≠ v := fun e => by
    rw [e] at hp
    rcases hv with hv | hv
    · rw [hv] at hp; cases hp
    · rw [hv] at hp; cases hp
  have hBl : ∀ w, w ≠ v → fst B v (some (n + 1)) w = B w := fun w hw => fst_n hw
  have h0v : t ≠ v := fun e => by
    rw [← e, h1.1] at hv
    rcases hv with hv | hv
    · cases hv
    · cases hv
  have hBv : B v ≠ some n := fun z => by
    rcases hv with hv | hv
    · rw [hv] at z; cases z
    · rw [hv] at z; cases z
  have hold : H v = smc (fun c => if G.2.2.1 c = true ∧ B (v ^^^ G.1 c) = some n ∧ dn (v ^^^ G.1 c) c = true then H (v ^^^ G.1 c) else 0) G.2.1 := by
    rcases hv with hv | hv
    · rw [h7 v hv, smc_0]
      intro c hcn
      rw [if_neg]
      rintro ⟨z1, z2, z3⟩
      obtain ⟨y1, y2, k, y3, y4⟩ := (h8 _ c hcn).mp z3
      obtain ⟨m, y5, -⟩ := h3 _ c k y3 y4 y2 hcn y1
      rw [xrs, hv] at y5
      cases y5
    · exact h6 v n hv
  have hsum := sum_upd (L' := fst B v (some (n + 1))) (R' := fst H v (H v + H p0)) hc hf hve.symm hp (fst_s _ _ _) (fun w hw => fst_n hw) hBv (fst_s _ _ _) (fun w hw => fst_n hw) hdf hdv hold h6
  refine ⟨⟨by rw [hBl t h0v]; exact h1.1, fun w hw => ?_⟩, fun w k hw => ?_, fun u c k hu hz hou hcn hfc => ?_, fun w k hw => ?_, by rw [fst_n h0v]; exact h5, hsum, fun w hw => ?_, fun u c hcn => ?_⟩
  · by_cases e : w = v
    · rw [e, fst_s] at hw; cases hw
    · rw [hBl w e] at hw; exact h1.2 w hw
  · by_cases e : w = v
    · rw [e, fst_s] at hw
      cases hw
      exact ⟨by rw [e]; exact hW, by omega⟩
    · rw [hBl w e] at hw; exact h2 w k hw
  · have huv : u ≠ v := fun e => by
      rw [e, fst_s] at hu
      cases hu
      unfold pzd at hz
      omega
    rw [hBl u huv] at hu
    have lift : ∀ x m, B x = some m → m ≤ k + 1 → ∃ m, fst B v (some (n + 1)) x = some m ∧ m ≤ k + 1 := fun x m hx hm => by
      by_cases e : x = v
      · rw [e] at hx ⊢
        rcases hv with hv | hv
        · rw [hv] at hx; cases hx
        · rw [hv] at hx
          cases hx
          exact ⟨n + 1, fst_s _ _ _, hm⟩
      · exact ⟨m, by rw [hBl x e]; exact hx, hm⟩
    rcases pzd_s.mp hz with hz | ⟨rfl, rfl, rfl⟩
    · obtain ⟨m, y1, y2⟩ := h3 u c k hu hz hou hcn hfc
      exact lift _ m y1 y2
    · rw [hve]
      exact ⟨k + 1, fst_s _ _ _, Nat.le_refl _⟩
  · by_cases e : w = v
    · rw [e, fst_s] at hw
      cases hw
      refine ⟨c0, hc, hf, ?_, ?_⟩
      · rw [e, ← hve, xrs]; exact ho
      · have ex : v ^^^ G.1 c0 = p0 := by rw [← hve, xrs]
        rw [e, ex, hBl p0 hpv]; exact hp
    · rw [hBl w e] at hw
      obtain ⟨c, y1, y2, y3, y4⟩ := h4 w k hw
      refine ⟨c, y1, y2, y3, ?_⟩
      by_cases ex : w ^^^ G.1 c = v
      · rw [ex] at y4 ⊢
        rcases hv with hv | hv
        · rw [hv] at y4; cases y4
        · rw [hv] at y4
          cases y4
          exact fst_s _ _ _
      · rw [hBl _ ex]; exact y4
  · by_cases e : w = v
    · rw [e, fst_s] at hw; cases hw
    · rw [hBl w e] at hw
      rw [fst_n e]; exact h7 w hw
  · rw [hd1 u c hcn]
    constructor
    · rintro ⟨x1, x2, k, x3, x4⟩
      refine ⟨x1, x2, k, ?_, x4⟩
      by_cases e : u = v
      · exfalso
        rw [e] at x3
        rcases hv with hv | hv
        · rw [hv] at x3; cases x3
        · rw [hv] at x3
          cases x3
          unfold pzd at x4
          omega
      · rw [hBl u e]; exact x3
    · rintro ⟨x1, x2, k, x3, x4⟩
      refine ⟨x1, x2, k, ?_, x4⟩
      by_cases e : u = v
      · exfalso
        rw [e, fst_s] at x3
        cases x3
        unfold pzd at x4
        omega
      · rw [hBl u e] at x3; exact x3
end BWS
theorem BWI.lab {G : GRT} {t W n p0 c0 : Nat} {B : Nat → Option Nat} {H : Nat → Int32} {dn : Nat → Nat → Bool} (h : BWI G t W n p0 c0 B H dn) : ∀ d k v, B v = some (k + d) → ∃ w, B w = some k := by
  intro d
  induction d with
  | zero => intro k v hv; exact ⟨v, hv⟩
  | succ d ih =>
    intro k v hv
    obtain ⟨c, -, -, -, hb⟩ := h.2.2.2.1 v (k + d) hv
    exact ih k _ hb
theorem BWI.lt {G : GRT} {t W n p0 c0 : Nat} {B : Nat → Option Nat} {H : Nat → Int32} {dn : Nat → Nat → Bool} (h : BWI G t W n p0 c0 B H dn) (hW : W ≤ 256) {v k : Nat} (hv : B v = some k) : k < 256 := by
  obtain ⟨f, hf⟩ := Classical.axiomOfChoice (r := fun (m w : Nat) => m ≤ k → B w = some m) (fun m => by
    rcases Nat.lt_or_ge k m with e | e
    · exact ⟨0, fun q => by omega⟩
    · obtain ⟨w, hw⟩ := h.lab (k - m) m v (by rw [show m + (k - m) = k by omega]; exact hv)
      exact ⟨w, fun _ => hw⟩)
  have hle := cnt_inj (m := 256) (k + 1) (fun _ => true) (fun _ => true) f (fun m hm _ => ⟨by have := (h.2.1 _ _ (hf m (by omega))).1; omega, rfl⟩) (fun a b ha hb _ _ e => by
    have h1 := hf a (by omega)
    have h2 := hf b (by omega)
    rw [e, h2] at h1
    cases h1
    rfl)
  have h2 : ∀ n, cnt (fun _ => true) n = n := fun n => (cnt_all n).mpr (fun _ _ => rfl)
  rw [h2, h2] at hle
  omega
theorem BWI.done {G : GRT} {t W : Nat} {B : Nat → Option Nat} {H : Nat → Int32} {dn : Nat → Nat → Bool} (hW : W ≤ 256) (h : BWI G t W 256 0 0 B H dn) : BWD G t B H := by
  have hlt := fun v k => h.lt hW (v := v) (k := k)
  obtain ⟨h1, h2, h3, h4, h5, h6, h7, h8⟩ := h
  refine ⟨h1.1, fun v n c hv ho hc hf => h3 v c n hv (Or.inl (hlt v n hv)) ho hc hf, h1.2, h4, h5, fun v n hv => ?_⟩
  rw [h6 v n hv]
  refine smc_ext _ (fun c hc => ?_)
  by_cases e : G.2.2.1 c = true ∧ G.2.2.2 (v ^^^ G.1 c) = true ∧ B (v ^^^ G.1 c) = some n
  · rw [if_pos e, if_pos ⟨e.1, e.2.2, (h8 _ c hc).mpr ⟨e.1, e.2.1, n, e.2.2, Or.inl (hlt _ n e.2.2)⟩⟩]
  · rw [if_neg e, if_neg]
    rintro ⟨z1, z2, z3⟩
    exact e ⟨z1, ((h8 _ c hc).mp z3).2.1, z2⟩
