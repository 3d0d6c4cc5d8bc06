/-! ways from picture to picture -/
def smc (f : Nat → Int32) : Nat → Int32
  | 0 => 0
  | n + 1 => smc f n + f n
theorem smc_s (f : Nat → Int32) (n : Nat) : smc f (n + 1) = smc f n + f n := rfl
theorem smc_ext {f g : Nat → Int32} : ∀ n, (∀ c, c < n → f c = g c) → smc f n = smc g n := by
  intro n
  induction n with
  | zero => intro _; rfl
  | succ n ih => intro h; rw [smc_s, smc_s, ih (fun c hc => h c (by omega)), h n (by omega)]
theorem smc_0 {f : Nat → Int32} : ∀ n, (∀ c, c < n → f c = 0) → smc f n = 0 := by
  intro n
  induction n with
  | zero => intro _; rfl
  | succ n ih => intro h; rw [smc_s, ih (fun c hc => h c (by omega)), h n (by omega), Int32.add_zero]
theorem add4 (a b c d : Int32) : (a + b) + (c + d) = (a + c) + (b + d) := by
  rw [Int32.add_assoc, Int32.add_assoc, ← Int32.add_assoc b, Int32.add_comm b c, Int32.add_assoc c]
theorem smc_add (f g : Nat → Int32) : ∀ n, smc (fun c => f c + g c) n = smc f n + smc g n := by
  intro n
  induction n with
  | zero => rfl
  | succ n ih => rw [smc_s, smc_s, smc_s, ih, add4]
theorem smc_swap (F : Nat → Nat → Int32) (m : Nat) : ∀ n, smc (fun a => smc (fun b => F a b) m) n = smc (fun b => smc (fun a => F a b) n) m := by
  intro n
  induction n with
  | zero => exact (smc_0 m (fun c _ => rfl)).symm
  | succ n ih => rw [smc_s, ih, ← smc_add]; rfl
theorem smc_upd {f g : Nat → Int32} {c0 : Nat} {x : Int32} : ∀ n, c0 < n → (∀ c, c < n → c ≠ c0 → g c = f c) → g c0 = f c0 + x → smc g n = smc f n + x := by
  intro n
  induction n with
  | zero => intro h; omega
  | succ n ih =>
    intro h1 h2 h3
    rw [smc_s, smc_s]
    by_cases e : c0 = n
    · rw [smc_ext (g := f) n (fun c hc => h2 c (by omega) (by omega)), ← e, h3, Int32.add_assoc]
    · rw [ih (by omega) (fun c hc => h2 c (by omega)) h3, h2 n (by omega) (fun q => e q.symm), Int32.add_assoc, Int32.add_comm x, ← Int32.add_assoc]
/-- cords, how many, which are free, which pictures may be come to -/
abbrev GRT : Type := (Nat → Nat) × Nat × (Nat → Bool) × (Nat → Bool)
def rcp (G : GRT) (p : Nat) : Nat → Nat → Prop
  | 0, q => q = p
  | n + 1, q => G.2.2.2 q = true ∧ ∃ c, c < G.2.1 ∧ G.2.2.1 c = true ∧ rcp G p n (q ^^^ G.1 c)
theorem rcp_s (G : GRT) (p n q : Nat) : rcp G p (n + 1) q ↔ G.2.2.2 q = true ∧ ∃ c, c < G.2.1 ∧ G.2.2.1 c = true ∧ rcp G p n (q ^^^ G.1 c) := Iff.rfl
theorem rcp_b (G : GRT) (p : Nat) : ∀ n q, rcp G p (n + 1) q ↔ ∃ c, c < G.2.1 ∧ G.2.2.1 c = true ∧ G.2.2.2 (p ^^^ G.1 c) = true ∧ rcp G (p ^^^ G.1 c) n q := by
  intro n
  induction n with
  | zero =>
    intro q
    rw [rcp_s]
    constructor
    · rintro ⟨h1, c, h2, h3, h4⟩
      have h4' : q ^^^ G.1 c = p := h4
      have e : p ^^^ G.1 c = q := by rw [← h4', xrs]
      exact ⟨c, h2, h3, by rw [e]; exact h1, e.symm⟩
    · rintro ⟨c, h2, h3, h4, h5⟩
      have h5' : q = p ^^^ G.1 c := h5
      exact ⟨by rw [h5']; exact h4, c, h2, h3, by show q ^^^ G.1 c = p; rw [h5', xrs]⟩
  | succ n ih =>
    intro q
    rw [rcp_s]
    constructor
    · rintro ⟨h1, c, h2, h3, h4⟩
      obtain ⟨c', k1, k2, k3, k4⟩ := (ih _).mp h4
      exact ⟨c', k1, k2, k3, h1, c, h2, h3, k4⟩
    · rintro ⟨c', k1, k2, k3, h1, c, h2, h3, k4⟩
      exact ⟨h1, c, h2, h3, (ih _).mpr ⟨c', k1, k2, k3, k4⟩⟩
theorem rcp_cat {G : GRT} {p x : Nat} {m : Nat} (h : rcp G p m x) : ∀ k q, rcp G x k q → rcp G p (m + k) q := by
  intro k
  induction k with
  | zero => intro q hq; rw [show q = x from hq]; exact h
  | succ k ih =>
    rintro q ⟨h1, c, h2, h3, h4⟩
    exact ⟨h1, c, h2, h3, ih _ h4⟩
def wkp (G : GRT) (p : Nat) : Nat → Nat → Int32
  | 0, q => if q = p then 1 else 0
  | n + 1, q => if G.2.2.2 q = true then smc (fun c => if G.2.2.1 c = true then wkp G p n (q ^^^ G.1 c) else 0) G.2.1 else 0
theorem wkp_s (G : GRT) (p n q : Nat) : wkp G p (n + 1) q = if G.2.2.2 q = true then smc (fun c => if G.2.2.1 c = true then wkp G p n (q ^^^ G.1 c) else 0) G.2.1 else 0 := rfl
theorem wkp_b (G : GRT) (p : Nat) : ∀ n q, wkp G p (n + 1) q = smc (fun c => if G.2.2.1 c = true ∧ G.2.2.2 (p ^^^ G.1 c) = true then wkp G (p ^^^ G.1 c) n q else 0) G.2.1 := by
  intro n
  induction n with
  | zero =>
    intro q
    rw [wkp_s]
    by_cases hq : G.2.2.2 q = true
    · rw [if_pos hq]
      refine smc_ext _ (fun c _ => ?_)
      by_cases hf : G.2.2.1 c = true
      · rw [if_pos hf]
        show (if q ^^^ G.1 c = p then (1 : Int32) else 0) = if G.2.2.1 c = true ∧ G.2.2.2 (p ^^^ G.1 c) = true then (if q = p ^^^ G.1 c then 1 else 0) else 0
        by_cases e : q ^^^ G.1 c = p
        · have e2 : q = p ^^^ G.1 c := by rw [← e, xrs]
          rw [if_pos e, ← e2, if_pos ⟨hf, hq⟩, if_pos rfl]
        · have e2 : ¬ q = p ^^^ G.1 c := fun z => e (by rw [z, xrs])
          rw [if_neg e, if_neg e2]
          split <;> rfl
      · rw [if_neg hf, if_neg (fun z => hf z.1)]
    · rw [if_neg hq, smc_0]
      intro c _
      show (if G.2.2.1 c = true ∧ G.2.2.2 (p ^^^ G.1 c) = true then (if q = p ^^^ G.1 c then (1 : Int32) else 0) else 0) = 0
      by_cases e2 : q = p ^^^ G.1 c
      · rw [← e2, if_neg (fun z => hq z.2)]
      · rw [if_neg e2]
        split <;> rfl
  | succ n ih =>
    intro q
    rw [wkp_s]
    by_cases hq : G.2.2.2 q = true
    · rw [if_pos hq]
      have e1 : smc (fun c => if G.2.2.1 c = true then wkp G p (n + 1) (q ^^^ G.1 c) else 0) G.2.1 = smc (fun c => smc (fun c' => if G.2.2.1 c = true then (if G.2.2.1 c' = true ∧ G.2.2.2 (p ^^^ G.1 c') = true then wkp G (p ^^^ G.1 c') n (q ^^^ G.1 c) else 0) else 0) G.2.1) G.2.1 := smc_ext _ (fun c _ => by
        by_cases hf : G.2.2.1 c = true
        · rw [if_pos hf, ih]
          exact smc_ext _ (fun c' _ => by rw [if_pos hf])
        · rw [if_neg hf, smc_0]
          intro c' _; rw [if_neg hf])
      rw [e1, smc_swap]
      refine smc_ext _ (fun c' _ => ?_)
      by_cases h' : G.2.2.1 c' = true ∧ G.2.2.2 (p ^^^ G.1 c') = true
      · rw [if_pos h', wkp_s, if_pos hq]
        exact smc_ext _ (fun c _ => by rw [if_pos h'])
      · rw [if_neg h', smc_0]
        intro c _
        rw [if_neg h']
        split <;> rfl
    · rw [if_neg hq, smc_0]
      intro c' _
      rw [wkp_s, if_neg hq]
      split <;> rfl
theorem wkp_no {G : GRT} {p : Nat} : ∀ n q, ¬ rcp G p n q → wkp G p n q = 0 := by
  intro n
  induction n with
  | zero => intro q h; exact if_neg h
  | succ n ih =>
    intro q h
    rw [wkp_s]
    by_cases hq : G.2.2.2 q = true
    · rw [if_pos hq, smc_0]
      intro c hc
      by_cases hf : G.2.2.1 c = true
      · rw [if_pos hf]
        exact ih _ (fun z => h ⟨hq, c, hc, hf, z⟩)
      · rw [if_neg hf]
    · rw [if_neg hq]
def dst (G : GRT) (p n q : Nat) : Prop := rcp G p n q ∧ ∀ m, m < n → ¬ rcp G p m q
theorem dst_uni {G : GRT} {p n m q : Nat} (h : dst G p n q) (h' : dst G p m q) : n = m := by
  rcases Nat.lt_trichotomy n m with e | e | e
  · exact absurd h.1 (h'.2 n e)
  · exact e
  · exact absurd h'.1 (h.2 m e)
/-- forward labels: how far each picture is from s, and in how many rows -/
def FWD (G : GRT) (s : Nat) (L : Nat → Option Nat) (R : Nat → Int32) : Prop :=
  L s = some 0 ∧ (∀ v n c, L v = some n → c < G.2.1 → G.2.2.1 c = true → G.2.2.2 (v ^^^ G.1 c) = true → ∃ m, L (v ^^^ G.1 c) = some m ∧ m ≤ n + 1) ∧
  (∀ v, L v = some 0 → v = s) ∧ (∀ v n, L v = some (n + 1) → G.2.2.2 v = true ∧ ∃ c, c < G.2.1 ∧ G.2.2.1 c = true ∧ L (v ^^^ G.1 c) = some n) ∧
  R s = 1 ∧ (∀ v n, L v = some (n + 1) → R v = smc (fun c => if G.2.2.1 c = true ∧ L (v ^^^ G.1 c) = some n then R (v ^^^ G.1 c) else 0) G.2.1)
theorem FWD.rc {G : GRT} {s : Nat} {L : Nat → Option Nat} {R : Nat → Int32} (h : FWD G s L R) : ∀ n v, L v = some n → rcp G s n v := by
  intro n
  induction n with
  | zero => intro v hv; exact h.2.2.1 v hv
  | succ n ih =>
    intro v hv
    obtain ⟨h1, c, h2, h3, h4⟩ := h.2.2.2.1 v n hv
    exact ⟨h1, c, h2, h3, ih _ h4⟩
theorem FWD.le {G : GRT} {s : Nat} {L : Nat → Option Nat} {R : Nat → Int32} (h : FWD G s L R) : ∀ n v, rcp G s n v → ∃ m, L v = some m ∧ m ≤ n := by
  intro n
  induction n with
  | zero => intro v hv; exact ⟨0, by rw [show v = s from hv]; exact h.1, Nat.le_refl _⟩
  | succ n ih =>
    rintro v ⟨h1, c, h2, h3, h4⟩
    obtain ⟨m, k1, k2⟩ := ih _ h4
    obtain ⟨m', k3, k4⟩ := h.2.1 _ m c k1 h2 h3 (by rw [xrs]; exact h1)
    rw [xrs] at k3
    exact ⟨m', k3, by omega⟩
theorem FWD.dst {G : GRT} {s : Nat} {L : Nat → Option Nat} {R : Nat → Int32} (h : FWD G s L R) (n v : Nat) : L v = some n ↔ dst G s n v := by
  constructor
  · intro hv
    refine ⟨h.rc n v hv, fun m hm hr => ?_⟩
    obtain ⟨m', k1, k2⟩ := h.le m v hr
    rw [hv] at k1
    cases k1
    omega
  · rintro ⟨h1, h2⟩
    obtain ⟨m, k1, k2⟩ := h.le n v h1
    rcases Nat.lt_or_ge m n with e | e
    · exact absurd (h.rc m v k1) (h2 m e)
    · rw [k1, show m = n by omega]
theorem FWD.row {G : GRT} {s : Nat} {L : Nat → Option Nat} {R : Nat → Int32} (h : FWD G s L R) : ∀ n v, L v = some n → R v = wkp G s n v := by
  intro n
  induction n with
  | zero =>
    intro v hv
    rw [h.2.2.1 v hv, h.2.2.2.2.1]
    exact (if_pos rfl).symm
  | succ n ih =>
    intro v hv
    obtain ⟨h1, -⟩ := h.2.2.2.1 v n hv
    rw [h.2.2.2.2.2 v n hv, wkp_s, if_pos h1]
    refine smc_ext _ (fun c hc => ?_)
    by_cases hf : G.2.2.1 c = true
    · rw [if_pos hf]
      by_cases hl : L (v ^^^ G.1 c) = some n
      · rw [if_pos ⟨hf, hl⟩]; exact ih _ hl
      · rw [if_neg (fun z => hl z.2), wkp_no]
        intro hr
        obtain ⟨m, k1, k2⟩ := h.le n _ hr
        have hmn : m ≠ n := fun e => hl (by rw [k1, e])
        obtain ⟨m', k3, k4⟩ := h.2.1 _ m c k1 hc hf (by rw [xrs]; exact h1)
        rw [xrs, hv] at k3
        cases k3
        omega
    · rw [if_neg hf, if_neg (fun z => hf z.1)]
/-- backward labels: how far each picture is to t -/
def BWD (G : GRT) (t : Nat) (L : Nat → Option Nat) (R : Nat → Int32) : Prop :=
  L t = some 0 ∧ (∀ v n c, L v = some n → G.2.2.2 v = true → c < G.2.1 → G.2.2.1 c = true → ∃ m, L (v ^^^ G.1 c) = some m ∧ m ≤ n + 1) ∧
  (∀ v, L v = some 0 → v = t) ∧ (∀ v n, L v = some (n + 1) → ∃ c, c < G.2.1 ∧ G.2.2.1 c = true ∧ G.2.2.2 (v ^^^ G.1 c) = true ∧ L (v ^^^ G.1 c) = some n) ∧
  R t = 1 ∧ (∀ v n, L v = some (n + 1) → R v = smc (fun c => if G.2.2.1 c = true ∧ G.2.2.2 (v ^^^ G.1 c) = true ∧ L (v ^^^ G.1 c) = some n then R (v ^^^ G.1 c) else 0) G.2.1)
theorem BWD.rc {G : GRT} {t : Nat} {L : Nat → Option Nat} {R : Nat → Int32} (h : BWD G t L R) : ∀ n v, L v = some n → rcp G v n t := by
  intro n
  induction n with
  | zero => intro v hv; exact (h.2.2.1 v hv).symm
  | succ n ih =>
    intro v hv
    obtain ⟨c, h2, h3, h1, h4⟩ := h.2.2.2.1 v n hv
    exact (rcp_b G v n t).mpr ⟨c, h2, h3, h1, ih _ h4⟩
theorem BWD.le {G : GRT} {t : Nat} {L : Nat → Option Nat} {R : Nat → Int32} (h : BWD G t L R) : ∀ n v, rcp G v n t → ∃ m, L v = some m ∧ m ≤ n := by
  intro n
  induction n with
  | zero => intro v hv; exact ⟨0, by rw [show v = t from (show t = v from hv).symm]; exact h.1, Nat.le_refl _⟩
  | succ n ih =>
    intro v hv
    obtain ⟨c, h2, h3, h1, h4⟩ := (rcp_b G v n t).mp hv
    obtain ⟨m, k1, k2⟩ := ih _ h4
    obtain ⟨m', k3, k4⟩ := h.2.1 _ m c k1 h1 h2 h3
    rw [xrs] at k3
    exact ⟨m', k3, by omega⟩
theorem BWD.dst {G : GRT} {t : Nat} {L : Nat → Option Nat} {R : Nat → Int32} (h : BWD G t L R) (n v : Nat) : L v = some n ↔ dst G v n t := by
  constructor
  · intro hv
    refine ⟨h.rc n v hv, fun m hm hr => ?_⟩
    obtain ⟨m', k1, k2⟩ := h.le m v hr
    rw [hv] at k1
    cases k1
    omega
  · rintro ⟨h1, h2⟩
    obtain ⟨m, k1, k2⟩ := h.le n v h1
    rcases Nat.lt_or_ge m n with e | e
    · exact absurd (h.rc m v k1) (h2 m e)
    · rw [k1, show m = n by omega]
theorem BWD.row {G : GRT} {t : Nat} {L : Nat → Option Nat} {R : Nat → Int32} (h : BWD G t L R) : ∀ n v, L v = some n → R v = wkp G v n t := by
  intro n
  induction n with
  | zero =>
    intro v hv
    rw [h.2.2.1 v hv, h.2.2.2.2.1]
    exact (if_pos rfl).symm
  | succ n ih =>
    intro v hv
    rw [h.2.2.2.2.2 v n hv, wkp_b]
    refine smc_ext _ (fun c hc => ?_)
    by_cases hf : G.2.2.1 c = true ∧ G.2.2.2 (v ^^^ G.1 c) = true
    · rw [if_pos hf]
      by_cases hl : L (v ^^^ G.1 c) = some n
      · rw [if_pos ⟨hf.1, hf.2, hl⟩]; exact ih _ hl
      · rw [if_neg (fun z => hl z.2.2), wkp_no]
        intro hr
        obtain ⟨m, k1, k2⟩ := h.le n _ hr
        have hmn : m ≠ n := fun e => hl (by rw [k1, e])
        obtain ⟨m', k3, k4⟩ := h.2.1 _ m c k1 hf.2 hc hf.1
        rw [xrs, hv] at k3
        cases k3
        omega
    · rw [if_neg hf, if_neg (fun z => hf ⟨z.1, z.2.1⟩)]
/-- both labels tell the same of s and t -/
theorem FB_iff {G : GRT} {s t : Nat} {L B : Nat → Option Nat} {R H : Nat → Int32} (hf : FWD G s L R) (hb : BWD G t B H) (n : Nat) : L t = some n ↔ B s = some n := by
  rw [hf.dst, hb.dst]
theorem FB_eq {G : GRT} {s t : Nat} {L B : Nat → Option Nat} {R H : Nat → Int32} (hf : FWD G s L R) (hb : BWD G t B H) : L t = B s := by
  cases h1 : L t with
  | none =>
    cases h2 : B s with
    | none => rfl
    | some n => rw [(FB_iff hf hb n).mpr h2] at h1; cases h1
  | some n => rw [(FB_iff hf hb n).mp h1]
theorem FB_row {G : GRT} {s t n : Nat} {L B : Nat → Option Nat} {R H : Nat → Int32} (hf : FWD G s L R) (hb : BWD G t B H) (h : L t = some n) : R t = H s := by
  rw [hf.row n t h, hb.row n s ((FB_iff hf hb n).mp h)]
/-- who first came to a picture, by which cord; the order in which pictures were come to -/
def lex2 (a b a' b' : Nat) : Prop := a < a' ∨ (a = a' ∧ b < b')
def CAM (G : GRT) (L : Nat → Option Nat) (ps PF CB : Nat → Nat) : Prop :=
  (∀ v m, L v = some (m + 1) → L (PF v) = some m ∧ CB v < G.2.1 ∧ G.2.2.1 (CB v) = true ∧ v = PF v ^^^ G.1 (CB v) ∧ G.2.2.2 v = true) ∧
  (∀ u c v m, L u = some m → L v = some (m + 1) → c < G.2.1 → G.2.2.1 c = true → v = u ^^^ G.1 c → ¬ lex2 (ps u) c (ps (PF v)) (CB v)) ∧
  (∀ v v' m m', L v = some (m + 1) → L v' = some (m' + 1) → lex2 (ps (PF v)) (CB v) (ps (PF v')) (CB v') → ps v < ps v')
theorem lex2_lt {a b a' b' a2 b2 : Nat} (h : ¬ lex2 a b a' b') (h2 : lex2 a b a2 b2) : lex2 a' b' a2 b2 := by
  unfold lex2 at *
  omega
theorem CAM.no {G : GRT} {s t n : Nat} {L B : Nat → Option Nat} {R H : Nat → Int32} {ps PF CB : Nat → Nat} (hf : FWD G s L R) (hb : BWD G t B H) (hc : CAM G L ps PF CB) (ht : L t = some n) (w : Nat → Nat) (hwn : w n = t) (hw : ∀ i, i < n → w i = PF (w (i + 1)) ∧ L (w (i + 1)) = some (i + 1)) : ∀ d j x, j + d = n → 1 ≤ j → L x = some j → B x = some d → ¬ ps x < ps (w j) := by
  intro d
  induction d with
  | zero =>
    intro j x hj h1 hx hbx hlt
    have e := hb.2.2.1 x hbx
    rw [show j = n by omega, hwn, e] at hlt
    omega
  | succ d ih =>
    intro j x hj h1 hx hbx hlt
    obtain ⟨c, c1, c2, c3, c4⟩ := hb.2.2.2.1 x d hbx
    have hd := (hf.dst n t).mp ht
    have hxr := hf.rc j x hx
    have hx1 : rcp G s (j + 1) (x ^^^ G.1 c) := ⟨c3, c, c1, c2, by rw [xrs]; exact hxr⟩
    have hL : L (x ^^^ G.1 c) = some (j + 1) := by
      rw [hf.dst]
      refine ⟨hx1, fun m hm hr => hd.2 (m + d) (by omega) (rcp_cat hr d t (hb.rc d _ c4))⟩
    have hwj := hw j (by omega)
    refine ih (j + 1) (x ^^^ G.1 c) (by omega) (by omega) hL c4 ?_
    refine hc.2.2 _ _ j j hL hwj.2 ?_
    rw [← hwj.1]
    exact lex2_lt (hc.2.1 x c _ j hx hL c1 c2 rfl) (Or.inl hlt)
/-- the reference's next cord is the one by which the class came -/
theorem CAM.next {G : GRT} {s t n : Nat} {L B : Nat → Option Nat} {R H : Nat → Int32} {ps PF CB : Nat → Nat} (hf : FWD G s L R) (hb : BWD G t B H) (hc : CAM G L ps PF CB) (ht : L t = some n) (w : Nat → Nat) (hwn : w n = t) (hw : ∀ i, i < n → w i = PF (w (i + 1)) ∧ L (w (i + 1)) = some (i + 1)) {i : Nat} (hi : i < n) (hLi : L (w i) = some i) : (CB (w (i + 1)) < G.2.1 ∧ G.2.2.1 (CB (w (i + 1))) = true ∧ w i ^^^ G.1 (CB (w (i + 1))) = w (i + 1) ∧ G.2.2.2 (w (i + 1)) = true) ∧ ∀ c, c < CB (w (i + 1)) → G.2.2.1 c = true → G.2.2.2 (w i ^^^ G.1 c) = true → ¬ B (w i ^^^ G.1 c) = some (n - i - 1) := by
  obtain ⟨w1, w2⟩ := hw i hi
  obtain ⟨a1, a2, a3, a4, a5⟩ := hc.1 _ _ w2
  rw [← w1] at a4
  refine ⟨⟨a2, a3, a4.symm, a5⟩, fun c h1 h2 h3 h4 => ?_⟩
  have hd := (hf.dst n t).mp ht
  have hL : L (w i ^^^ G.1 c) = some (i + 1) := by
    rw [hf.dst]
    refine ⟨⟨h3, c, by omega, h2, by rw [xrs]; exact hf.rc i _ hLi⟩, fun m hm hr => hd.2 (m + (n - i - 1)) (by omega) (rcp_cat hr _ t (hb.rc _ _ h4))⟩
  refine CAM.no hf hb hc ht w hwn hw (n - i - 1) (i + 1) _ (by omega) (by omega) hL h4 ?_
  refine hc.2.2 _ _ i i hL w2 ?_
  rw [← w1]
  exact lex2_lt (hc.2.1 (w i) c _ i hLi hL (by omega) h2 rfl) (Or.inr ⟨rfl, h1⟩)
/-- on the way, the rest is as far as it must be -/
theorem CAM.rest {G : GRT} {s t n : Nat} {L B : Nat → Option Nat} {R H : Nat → Int32} {ps PF CB : Nat → Nat} (hf : FWD G s L R) (hb : BWD G t B H) (hc : CAM G L ps PF CB) (ht : L t = some n) (w : Nat → Nat) (hwn : w n = t) (hw : ∀ i, i < n → w i = PF (w (i + 1)) ∧ L (w (i + 1)) = some (i + 1)) : ∀ d i, i + d = n → L (w i) = some i → B (w i) = some d := by
  intro d
  induction d with
  | zero =>
    intro i hi hLi
    rw [show i = n by omega, hwn]
    exact hb.1
  | succ d ih =>
    intro i hi hLi
    obtain ⟨w1, w2⟩ := hw i (by omega)
    obtain ⟨a1, a2, a3, a4, a5⟩ := hc.1 _ _ w2
    rw [← w1] at a4
    have hB := ih (i + 1) (by omega) w2
    have hd := (hf.dst n t).mp ht
    rw [hb.dst]
    refine ⟨(rcp_b G (w i) d t).mpr ⟨_, a2, a3, by rw [← a4]; exact a5, by rw [← a4]; exact hb.rc d _ hB⟩, fun m hm hr => ?_⟩
    exact hd.2 (i + m) (by omega) (rcp_cat (hf.rc i _ hLi) m t hr)
