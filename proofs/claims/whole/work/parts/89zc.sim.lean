/-! both ways of reading the dusk come to the same -/
def BAD (f : Nat → Nat) (u : Bool) (i : Nat) (S : List Nat) (E : DT) (q : Nat × Nat) : Prop := ∃ d, i + d ≤ nE f + 2 ∧ ∀ k, MA f (k + d) u i S E = .inr q
theorem BAD.go {f : Nat → Nat} {u u' : Bool} {i j : Nat} {S S' : List Nat} {E E' : DT} {q : Nat × Nat} (h : BAD f u' j S' E' q) (hij : i ≤ j) (hs : ∀ k, MA f (k + (j - i)) u i S E = MA f k u' j S' E') : BAD f u i S E q := by
  obtain ⟨d, d1, d2⟩ := h
  refine ⟨d + (j - i), by omega, fun k => ?_⟩
  rw [← Nat.add_assoc, hs, d2]
theorem BAD.now {f : Nat → Nat} {u : Bool} {i : Nat} {S : List Nat} {E : DT} {q : Nat × Nat} (hi : i ≤ nE f) (hs : ∀ k, MA f (k + 1) u i S E = .inr q) : BAD f u i S E q := ⟨1, by omega, hs⟩
/-- what a level comes to, from phase u -/
def SOK (f : Nat → Nat) (u : Bool) (m i : Nat) (S : List Nat) (E : DT) (r : RSL) : Prop := match r with
  | .inr q => BAD f u i S E q
  | .inl (j, E') => i ≤ j ∧ j ≤ nE f ∧ ((m ≤ 2 ∧ rel3 (knd f j) ∧ BAD f u i S E (2, plc f j)) ∨ (¬ (m ≤ 2 ∧ rel3 (knd f j)) ∧ tgs (knd f j) ≤ rdy m ∧ ∀ k, MA f (k + (j - i)) u i S E = MA f k false j S E'))
theorem SOK.go {f : Nat → Nat} {u u' : Bool} {m i j : Nat} {S : List Nat} {E E' : DT} {r : RSL} (h : SOK f u' m j S E' r) (hij : i ≤ j) (hs : ∀ k, MA f (k + (j - i)) u i S E = MA f k u' j S E') : SOK f u m i S E r := by
  match r, h with
  | .inr q, h => exact BAD.go h hij hs
  | .inl (j2, E2), ⟨h1, h2, h3⟩ =>
    refine ⟨by omega, h2, ?_⟩
    rcases h3 with ⟨a, b, c⟩ | ⟨a, b, c⟩
    · exact Or.inl ⟨a, b, BAD.go c hij hs⟩
    · refine Or.inr ⟨a, b, fun k => ?_⟩
      rw [show k + (j2 - i) = (k + (j2 - j)) + (j - i) by omega, hs, c]
theorem loop_rel {f : Nat → Nat} {g : Nat → DT → RSL} {m c j : Nat} {E : DT} (hr : rel3 (knd f j)) (hm : m ≤ 4) : loopR f g m c j E = .inl (j, E) := by
  cases c with
  | zero => rfl
  | succ c =>
    rw [loopR_s, if_neg]
    rcases tgs_cases (knd f j) with ⟨_, _, _, x⟩ | ⟨_, x, _⟩ | ⟨_, x, _⟩ | ⟨_, _, _, x⟩ | ⟨_, x, _⟩ | ⟨_, x, _⟩
    · exact absurd hr x
    · unfold rel3 at hr; omega
    · unfold rel3 at hr; omega
    · omega
    · unfold rel3 at hr; omega
    · unfold rel3 at hr; omega
theorem lvl_rdy {k m : Nat} (h : tgs k ≤ rdy (m + 1)) (hb : ¬ (m + 1 ≤ 2 ∧ rel3 k)) (hl : ¬ lvl k = m) (hm : m ≤ 4) (h2 : ¬ m = 2) : tgs k ≤ rdy m := by
  have l1 : k = 137 → lvl k = 0 := fun q => by rw [q]; rfl
  have l2 : k = 138 → lvl k = 1 := fun q => by rw [q]; rfl
  have l3 : k = 43 ∨ k = 45 → lvl k = 3 := fun q => by rcases q with rfl | rfl <;> rfl
  have l4 : k = 42 ∨ k = 47 ∨ k = 37 → lvl k = 4 := fun q => by rcases q with rfl | rfl | rfl <;> rfl
  rcases (show m = 0 ∨ m = 1 ∨ m = 3 ∨ m = 4 by omega) with rfl | rfl | rfl | rfl
  · have h' : tgs k ≤ 1 := h
    show tgs k ≤ 0
    rcases tgs_cases k with ⟨x, _⟩ | ⟨x, y, _⟩ | ⟨x, y, _⟩ | ⟨x, _⟩ | ⟨x, y, _⟩ | ⟨x, y, _⟩
    · omega
    · exact absurd (l1 y) hl
    all_goals omega
  · have h' : tgs k ≤ 3 := h
    show tgs k ≤ 1
    rcases tgs_cases k with ⟨x, _⟩ | ⟨x, y, _⟩ | ⟨x, y, _⟩ | ⟨x, _⟩ | ⟨x, y, _⟩ | ⟨x, y, _⟩
    · omega
    · omega
    · exact absurd (l2 y) hl
    all_goals omega
  · have h' : tgs k ≤ 5 := h
    show tgs k ≤ 4
    rcases tgs_cases k with ⟨x, _⟩ | ⟨x, y, _⟩ | ⟨x, y, _⟩ | ⟨x, _⟩ | ⟨x, y, _⟩ | ⟨x, y, _⟩
    · omega
    · omega
    · omega
    · omega
    · exact absurd (l3 y) hl
    · omega
  · have h' : tgs k ≤ 6 := h
    show tgs k ≤ 5
    rcases tgs_cases k with ⟨x, _⟩ | ⟨x, y, _⟩ | ⟨x, y, _⟩ | ⟨x, _⟩ | ⟨x, y, _⟩ | ⟨x, y, _⟩
    · omega
    · omega
    · omega
    · omega
    · omega
    · exact absurd (l4 y) hl
theorem pop_ok {k m o : Nat} (h : tgs k ≤ rdy (m + 1)) (hb : ¬ (m + 1 ≤ 2 ∧ rel3 k)) (ho : rdy m < tgt o) (hm : m ≤ 4) (h2 : ¬ m = 2) : tgs k ≤ tgt o ∧ (tgs k = 4 → 4 < tgt o) := by
  rcases (show m = 0 ∨ m = 1 ∨ m = 3 ∨ m = 4 by omega) with rfl | rfl | rfl | rfl
  · have h' : tgs k ≤ 1 := h
    have o' : 0 < tgt o := ho
    omega
  · have h' : tgs k ≤ 3 := h
    have o' : 1 < tgt o := ho
    rcases tgs_cases k with ⟨x, _⟩ | ⟨x, y, _⟩ | ⟨x, y, _⟩ | ⟨x, _⟩ | ⟨x, y, _⟩ | ⟨x, y, _⟩ <;> omega
  · have h' : tgs k ≤ 5 := h
    have o' : 4 < tgt o := ho
    omega
  · have h' : tgs k ≤ 6 := h
    have o' : 5 < tgt o := ho
    omega
section SIM
variable {B : Nat → Nat} {z : Nat} {E0 : DT}
theorem kE (hz : z ≤ 1600) (hB : ∀ i, i < z → B i < 256) {t : Nat} (h : 2 ≤ knd (byt B z) t) : t < nE (byt B z) := by
  obtain ⟨n1, n2, n3⟩ := nE_ok hz hB
  rcases Nat.lt_or_ge t (nE (byt B z)) with x | x
  · exact x
  · have e1 := plc_min hz hB t
    rw [Nat.min_eq_right x] at e1
    have e2 : knd (byt B z) (nE (byt B z)) = knd (byt B z) t := by unfold knd; rw [e1]
    omega
theorem sim_loop (hz : z ≤ 1600) (hB : ∀ i, i < z → B i < 256) {g : Nat → DT → RSL} {m w : Nat} {S : List Nat} (hm : m ≤ 4) (h2 : ¬ m = 2) (hS : topt S ≤ rdy m) (hd : dpt S = w)
    (hg : ∀ i E h S, i ≤ nE (byt B z) → dpt S = w → topt S ≤ rdy (m + 1) → (3 ≤ m + 1 → knd (byt B z) i = 139 → ¬ topt S < 4) → RI E0 E h → SOK (byt B z) true (m + 1) i S E (g i E))
    (hin : ∀ i E h j E', g i E = .inl (j, E') → RI E0 E h → RI E0 E' (h + 1) ∧ E' 0 6 + 1 + w + 9 * E 0 5 ≤ E 0 6 + 9 * E' 0 5 ∧ E 0 5 < E' 0 5 ∧ i < j) : ∀ c i E h, i ≤ nE (byt B z) → RI E0 E (h + 1) → 31 ≤ E 0 5 + c → ¬ (m + 1 ≤ 2 ∧ rel3 (knd (byt B z) i)) → tgs (knd (byt B z) i) ≤ rdy (m + 1) → SOK (byt B z) false m i S E (loopR (byt B z) g m c i E) := by
  intro c
  induction c with
  | zero => intro i E h hi hr hu; have := hr.1.2; omega
  | succ c ih =>
    intro i E h hi hr hu hb ht
    rw [loopR_s]
    by_cases el : lvl (knd (byt B z) i) = m
    · rw [if_pos el]
      obtain ⟨o, o1, o2, o3, o4, o5, o6, o7, o8, o9, o10, o11, o12⟩ := lvl_T el hm h2
      have st1 : ∀ k, MA (byt B z) (k + (i + 1 - i)) false i S E = MA (byt B z) k true (i + 1) (o :: S) E := fun k => by
        rw [show k + (i + 1 - i) = k + 1 by omega, MA_m, if_neg (fun q => o11 q.1), if_neg (fun q => q.elim (fun q => o4 (by rw [← o1]; exact q)) (fun q => o7 (by rw [← o3]; exact q.1))), o1, o3, clo_no (by omega)]
      have et : topt (o :: S) = tgt o := if_neg o5
      have ed : dpt (o :: S) = w := by
        show dpt S + (if o = 20 ∨ o = 21 then 1 else 0) = w
        rw [if_neg (by omega)]; exact hd
      have hs := hg (i + 1) E (h + 1) (o :: S) (kE hz hB o12) ed (by omega) (fun q _ => by have := o10 (by omega); omega) hr
      cases hgr : g (i + 1) E with
      | inr q =>
        rw [hgr] at hs
        rw [rb_r]
        exact BAD.go hs (by omega) st1
      | inl je =>
        obtain ⟨j, E1⟩ := je
        rw [hgr] at hs
        obtain ⟨a1, a2, a3, a4⟩ := hin (i + 1) E (h + 1) j E1 hgr hr
        obtain ⟨s1, s2, s3⟩ := hs
        rw [rb_l]
        rcases s3 with ⟨b1, b2, b3⟩ | ⟨b1, b2, b3⟩
        · rw [loop_rel b2 hm]
          exact ⟨by omega, s2, Or.inl ⟨by omega, b2, BAD.go b3 (by omega) st1⟩⟩
        · obtain ⟨p1, p2⟩ := pop_ok b2 b1 o8 hm h2
          have hu' := a1.2.2.1
          have hp := hr.1.1
          have rp := RI.put (a := 3) (b := sg (knd (byt B z) i)) (h' := h + 1) a1 (by unfold hst; rw [if_neg (by decide), if_neg (by decide), if_pos (by omega)]; rfl) (lvl_ok el hm) (by omega) (by omega)
          have nx := ih j (putE E1 3 (sg (knd (byt B z) i))) h s2 rp (by rw [putE_05]; omega) b1 b2
          refine nx.go (by omega) (fun k => ?_)
          have e1 := st1 (k + (j - (i + 1)))
          rw [show k + (j - (i + 1)) + (i + 1 - i) = k + (j - i) by omega] at e1
          rw [e1, b3, MA_pop o5 p1 p2]
          unfold adp
          rw [if_neg o6, o2]
    · rw [if_neg el]
      refine ⟨Nat.le_refl _, hi, Or.inr ⟨fun q => hb ⟨by omega, q.2⟩, lvl_rdy ht hb el hm h2, fun k => ?_⟩⟩
      rw [Nat.sub_self, Nat.add_zero]
end SIM
