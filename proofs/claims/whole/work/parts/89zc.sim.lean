/-! both ways of reading the dusk come to the same -/
def BAD (f : Nat → Nat) (u : Bool) (i : Nat) (S : List Nat) (E : DT) (q : Nat × Nat) : Prop := ∃ d, i + d ≤ nE f + 2 ∧ ∀ k, MA f (k + d) u i S E = .inr q
theorem BAD.go {f : Nat → Nat} {u u' : Bool} {i j : Nat} {S S' : List Nat} {E E' : DT} {q : Nat × Nat} (h : BAD f u' j S' E' q) (hij : i ≤ j) (hs : ∀ k, MA f (k + (j - i)) u i S E = MA f k u' j S' E') : BAD f u i S E q := by
  obtain ⟨d, d1, d2⟩ := h
  refine ⟨d + (j - i), by omega, fun k => ?_⟩
  rw [← Nat.add_assoc, hs, d2]
theorem BAD.now {f : Nat → Nat} {u : Bool} {i : Nat} {S : List Nat} {E : DT} {q : Nat × Nat} (hi : i ≤ nE f) (hs : ∀ k, MA f (k + 1) u i S E = .inr q) : BAD f u i S E q := ⟨1, by omega, hs⟩
/-- what a level comes to, from phase u -/
def SOK (f : Nat → Nat) (u : Bool) (m i : Nat) (S : List Nat) (E : DT) (r : RSL) : Prop := match r with
  | .inr q => BAD f u i S E q
  | .inl (j, E') => i ≤ j ∧ j ≤ nE f ∧ ((m ≤ 2 ∧ rel3 (knd f j) ∧ BAD f u i S E (2, plc f j)) ∨ (¬ (m ≤ 2 ∧ rel3 (knd f j)) ∧ tgs (knd f j) ≤ rdy m ∧ ∀ k, MA f (k + (j - i)) u i S E = MA f k false j S E'))
theorem SOK.go {f : Nat → Nat} {u u' : Bool} {m i j : Nat} {S : List Nat} {E E' : DT} {r : RSL} (h : SOK f u' m j S E' r) (hij : i ≤ j) (hs : ∀ k, MA f (k + (j - i)) u i S E = MA f k u' j S E') : SOK f u m i S E r := by
  match r, h with
  | .inr q, h => exact BAD.go h hij hs
  | .inl (j2, E2), ⟨h1, h2, h3⟩ =>
    refine ⟨by omega, h2, ?_⟩
    rcases h3 with ⟨a, b, c⟩ | ⟨a, b, c⟩
    · exact Or.inl ⟨a, b, BAD.go c hij hs⟩
    · refine Or.inr ⟨a, b, fun k => ?_⟩
      rw [show k + (j2 - i) = (k + (j2 - j)) + (j - i) by omega, hs, c]
theorem loop_rel {f : Nat → Nat} {g : Nat → DT → RSL} {m c j : Nat} {E : DT} (hr : rel3 (knd f j)) (hm : m ≤ 4) : loopR f g m c j E = .inl (j, E) := by
  cases c with
  | zero => rfl
  | succ c =>
    rw [loopR_s, if_neg]
    rcases tgs_cases (knd f j) with ⟨_, _, _, x⟩ | ⟨_, x, _⟩ | ⟨_, x, _⟩ | ⟨_, _, _, x⟩ | ⟨_, x, _⟩ | ⟨_, x, _⟩
    · exact absurd hr x
    · unfold rel3 at hr; omega
    · unfold rel3 at hr; omega
    · omega
    · unfold rel3 at hr; omega
    · unfold rel3 at hr; omega
theorem lvl_rdy {k m : Nat} (h : tgs k ≤ rdy (m + 1)) (hb : ¬ (m + 1 ≤ 2 ∧ rel3 k)) (hl : ¬ lvl k = m) (hm : m ≤ 4) (h2 : ¬ m = 2) : tgs k ≤ rdy m := by
  have l1 : k = 137 → lvl k = 0 := fun q => by rw [q]; rfl
  have l2 : k = 138 → lvl k = 1 := fun q => by rw [q]; rfl
  have l3 : k = 43 ∨ k = 45 → lvl k = 3 := fun q => by rcases q with rfl | rfl <;> rfl
  have l4 : k = 42 ∨ k = 47 ∨ k = 37 → lvl k = 4 := fun q => by rcases q with rfl | rfl | rfl <;> rfl
  rcases (show m = 0 ∨ m = 1 ∨ m = 3 ∨ m = 4 by omega) with rfl | rfl | rfl | rfl
  · have h' : tgs k ≤ 1 := h
    show tgs k ≤ 0
    rcases tgs_cases k with ⟨x, _⟩ | ⟨x, y, _⟩ | ⟨x, y, _⟩ | ⟨x, _⟩ | ⟨x, y, _⟩ | ⟨x, y, _⟩
    · omega
    · exact absurd (l1 y) hl
    all_goals omega
  · have h' : tgs k ≤ 3 := h
    show tgs k ≤ 1
    rcases tgs_cases k with ⟨x, _⟩ | ⟨x, y, _⟩ | ⟨x, y, _⟩ | ⟨x, _⟩ | ⟨x, y, _⟩ | ⟨x, y, _⟩
    · omega
    · omega
    · exact absurd (l2 y) hl
    all_goals omega
  · have h' : tgs k ≤ 5 := h
    show tgs k ≤ 4
    rcases tgs_cases k with ⟨x, _⟩ | ⟨x, y, _⟩ | ⟨x, y, _⟩ | ⟨x, _⟩ | ⟨x, y, _⟩ | ⟨x, y, _⟩
    · omega
    · omega
    · omega
    · omega
    · exact absurd (l3 y) hl
    · omega
  · have h' : tgs k ≤ 6 := h
    show tgs k ≤ 5
    rcases tgs_cases k with ⟨x, _⟩ | ⟨x, y, _⟩ | ⟨x, y, _⟩ | ⟨x, _⟩ | ⟨x, y, _⟩ | ⟨x, y, _⟩
    · omega
    · omega
    · omega
    · omega
    · omega
    · exact absurd (l4 y) hl
theorem pop_ok {k m o : Nat} (h : tgs k ≤ rdy (m + 1)) (hb : ¬ (m + 1 ≤ 2 ∧ rel3 k)) (ho : rdy m < tgt o) (hm : m ≤ 4) (h2 : ¬ m = 2) : tgs k ≤ tgt o ∧ (tgs k = 4 → 4 < tgt o) := by
  rcases (show m = 0 ∨ m = 1 ∨ m = 3 ∨ m = 4 by omega) with rfl | rfl | rfl | rfl
  · have h' : tgs k ≤ 1 := h
    have o' : 0 < tgt o := ho
    omega
  · have h' : tgs k ≤ 3 := h
    have o' : 1 < tgt o := ho
    rcases tgs_cases k with ⟨x, _⟩ | ⟨x, y, _⟩ | ⟨x, y, _⟩ | ⟨x, _⟩ | ⟨x, y, _⟩ | ⟨x, y, _⟩ <;> omega
  · have h' : tgs k ≤ 5 := h
    have o' : 4 < tgt o := ho
    omega
  · have h' : tgs k ≤ 6 := h
    have o' : 5 < tgt o := ho
    omega
section SIM
variable {B : Nat → Nat} {z : Nat} {E0 : DT}
theorem kE (hz : z ≤ 1600) (hB : ∀ i, i < z → B i < 256) {t : Nat} (h : 2 ≤ knd (byt B z) t) : t < nE (byt B z) := by
  obtain ⟨n1, n2, n3⟩ := nE_ok hz hB
  rcases Nat.lt_or_ge t (nE (byt B z)) with x | x
  · exact x
  · have e1 := plc_min hz hB t
    rw [Nat.min_eq_right x] at e1
    have e2 : knd (byt B z) (nE (byt B z)) = knd (byt B z) t := by unfold knd; rw [e1]
    omega
theorem sim_loop (hz : z ≤ 1600) (hB : ∀ i, i < z → B i < 256) {g : Nat → DT → RSL} {m w : Nat} {S : List Nat} (hm : m ≤ 4) (h2 : ¬ m = 2) (hS : topt S ≤ rdy m) (hd : dpt S = w)
    (hg : ∀ i E h S, i ≤ nE (byt B z) → dpt S = w → topt S ≤ rdy (m + 1) → (3 ≤ m + 1 → knd (byt B z) i = 139 → ¬ topt S < 4) → RI E0 E h → SOK (byt B z) true (m + 1) i S E (g i E))
    (hin : ∀ i E h j E', g i E = .inl (j, E') → RI E0 E h → RI E0 E' (h + 1) ∧ E' 0 6 + 1 + w + 9 * E 0 5 ≤ E 0 6 + 9 * E' 0 5 ∧ E 0 5 < E' 0 5 ∧ i < j) : ∀ c i E h, i ≤ nE (byt B z) → RI E0 E (h + 1) → 31 ≤ E 0 5 + c → ¬ (m + 1 ≤ 2 ∧ rel3 (knd (byt B z) i)) → tgs (knd (byt B z) i) ≤ rdy (m + 1) → SOK (byt B z) false m i S E (loopR (byt B z) g m c i E) := by
  intro c
  induction c with
  | zero => intro i E h hi hr hu; have := hr.1.2; omega
  | succ c ih =>
    intro i E h hi hr hu hb ht
    rw [loopR_s]
    by_cases el : lvl (knd (byt B z) i) = m
    · rw [if_pos el]
      obtain ⟨o, o1, o2, o3, o4, o5, o6, o7, o8, o9, o10, o11, o12⟩ := lvl_T el hm h2
      have st1 : ∀ k, MA (byt B z) (k + (i + 1 - i)) false i S E = MA (byt B z) k true (i + 1) (o :: S) E := fun k => by
        rw [show k + (i + 1 - i) = k + 1 by omega, MA_m, if_neg (fun q => o11 q.1), if_neg (fun q => q.elim (fun q => o4 (by rw [← o1]; exact q)) (fun q => o7 (by rw [← o3]; exact q.1))), o1, o3, clo_no (by omega)]
      have et : topt (o :: S) = tgt o := if_neg o5
      have ed : dpt (o :: S) = w := by
        show dpt S + (if o = 20 ∨ o = 21 then 1 else 0) = w
        rw [if_neg (by omega)]; exact hd
      have hs := hg (i + 1) E (h + 1) (o :: S) (kE hz hB o12) ed (by omega) (fun q _ => by have := o10 (by omega); omega) hr
      cases hgr : g (i + 1) E with
      | inr q =>
        rw [hgr] at hs
        rw [rb_r]
        exact BAD.go hs (by omega) st1
      | inl je =>
        obtain ⟨j, E1⟩ := je
        rw [hgr] at hs
        obtain ⟨a1, a2, a3, a4⟩ := hin (i + 1) E (h + 1) j E1 hgr hr
        obtain ⟨s1, s2, s3⟩ := hs
        rw [rb_l]
        rcases s3 with ⟨b1, b2, b3⟩ | ⟨b1, b2, b3⟩
        · rw [loop_rel b2 hm]
          exact ⟨by omega, s2, Or.inl ⟨by omega, b2, BAD.go b3 (by omega) st1⟩⟩
        · obtain ⟨p1, p2⟩ := pop_ok b2 b1 o8 hm h2
          have hu' := a1.2.2.1
          have hp := hr.1.1
          have rp := RI.put (a := 3) (b := sg (knd (byt B z) i)) (h' := h + 1) a1 (by unfold hst; rw [if_neg (by decide), if_neg (by decide), if_pos (by omega)]; rfl) (lvl_ok el hm) (by omega) (by omega)
          have nx := ih j (putE E1 3 (sg (knd (byt B z) i))) h s2 rp (by rw [putE_05]; omega) b1 b2
          refine nx.go (by omega) (fun k => ?_)
          have e1 := st1 (k + (j - (i + 1)))
          rw [show k + (j - (i + 1)) + (i + 1 - i) = k + (j - i) by omega] at e1
          rw [e1, b3, MA_pop o5 p1 p2]
          unfold adp
          rw [if_neg o6, o2]
    · rw [if_neg el]
      refine ⟨Nat.le_refl _, hi, Or.inr ⟨fun q => hb ⟨by omega, q.2⟩, lvl_rdy ht hb el hm h2, fun k => ?_⟩⟩
      rw [Nat.sub_self, Nat.add_zero]
theorem rdy_le {m : Nat} (hm : m ≤ 4) : rdy m ≤ rdy (m + 1) := by
  rcases (show m = 0 ∨ m = 1 ∨ m = 2 ∨ m = 3 ∨ m = 4 by omega) with rfl | rfl | rfl | rfl | rfl <;> decide
theorem relT {k : Nat} (h : tgs k ≤ 4) (hr : ¬ rel3 k) : tgs k ≤ 3 := by
  rcases tgs_cases k with ⟨x, _⟩ | ⟨x, y, _⟩ | ⟨x, y, _⟩ | ⟨x, y, _⟩ | ⟨x, y, _⟩ | ⟨x, y, _⟩
  · omega
  · omega
  · omega
  · exact absurd y hr
  · omega
  · omega
theorem tgs_6 (k : Nat) : tgs k ≤ 6 := by
  rcases tgs_cases k with ⟨x, _⟩ | ⟨x, y, _⟩ | ⟨x, y, _⟩ | ⟨x, y, _⟩ | ⟨x, y, _⟩ | ⟨x, y, _⟩ <;> omega
theorem relF {k : Nat} (h : rel3 k) : tgs k = 4 ∧ sgk k = k ∧ tgt k = 4 ∧ ¬ k = 20 ∧ ¬ k = 21 ∧ ¬ k = 41 ∧ ¬ k = 0 ∧ ¬ k = 1 ∧ ¬ k = 59 ∧ 2 ≤ k := by
  rcases h with rfl | rfl | rfl <;> decide
theorem flt_2 {f : Nat → Nat} {i k : Nat} (h : ¬ knd f i = 1) : flt f i k = .inr (k, plc f i) := by unfold flt; rw [if_neg h]
theorem sim (hz : z ≤ 1600) (hB : ∀ i, i < z → B i < 256) : ∀ n m w i E h S, 6 * (7 - w) + (6 - m) ≤ n → m ≤ 5 → w ≤ 7 → i ≤ nE (byt B z) → dpt S = w → topt S ≤ rdy m → (3 ≤ m → knd (byt B z) i = 139 → ¬ topt S < 4) → RI E0 E h → SOK (byt B z) true m i S E (rd (byt B z) n m w i E) := by
  intro n
  induction n with
  | zero => intro m w i E h S hn hm hw; omega
  | succ n ih =>
    intro m w i E h S hn hm hw hi hd hS h139 hr
    by_cases m2 : m = 2
    · subst m2
      have hS3 : topt S ≤ 3 := hS
      rw [rd_one]
      by_cases e : knd (byt B z) i = 139
      · rw [if_pos e]
        by_cases ew : w < 7
        · rw [if_pos ew]
          have st1 : ∀ k, MA (byt B z) (k + (i + 1 - i)) true i S E = MA (byt B z) k true (i + 1) (21 :: S) E := fun k => by
            rw [show k + (i + 1 - i) = k + 1 by omega, MA_u, if_pos ⟨e, by omega⟩, if_pos (by omega)]
          have ed : dpt (21 :: S) = w + 1 := by
            show dpt S + 1 = w + 1
            omega
          have hs := ih 2 (w + 1) (i + 1) E h (21 :: S) (by omega) (by omega) (by omega) (kE hz hB (by omega)) ed (show topt (21 :: S) ≤ rdy 2 from Nat.le_refl 3) (by omega) hr
          cases hgr : rd (byt B z) n 2 (w + 1) (i + 1) E with
          | inr q => rw [hgr] at hs; rw [rb_r]; exact BAD.go hs (by omega) st1
          | inl je =>
            obtain ⟨j, E1⟩ := je
            rw [hgr] at hs
            obtain ⟨s1, s2, s3⟩ := hs
            rw [rb_l]
            refine ⟨by omega, s2, ?_⟩
            rcases s3 with ⟨b1, b2, b3⟩ | ⟨b1, b2, b3⟩
            · exact Or.inl ⟨b1, b2, BAD.go b3 (by omega) st1⟩
            · refine Or.inr ⟨b1, b2, fun k => ?_⟩
              have b2' : tgs (knd (byt B z) j) ≤ 3 := b2
              have t21 : tgt 21 = 3 := rfl
              have e1 := st1 (k + (j - (i + 1)))
              rw [show k + (j - (i + 1)) + (i + 1 - i) = k + (j - i) by omega] at e1
              rw [e1, b3, MA_pop (by decide) (by omega) (by omega)]
              rfl
        · rw [if_neg ew]
          exact BAD.now hi (fun k => by rw [MA_u, if_pos ⟨e, by omega⟩, if_neg (by omega)]; rfl)
      · rw [if_neg e]
        have hs := ih 3 w i E h S (by omega) (by omega) hw hi hd (show topt S ≤ 4 by omega) (fun _ q => absurd q e) hr
        cases hgr : rd (byt B z) n 3 w i E with
        | inr q => rw [hgr] at hs; rw [rb_r]; exact hs
        | inl je =>
          obtain ⟨j, E1⟩ := je
          rw [hgr] at hs
          obtain ⟨s1, s2, s3⟩ := hs
          obtain ⟨a1, a2, a3, a4⟩ := rd_in hz n 3 w i E h j E1 (by omega) (by omega) hw hgr hr
          rw [rb_l]
          rcases s3 with ⟨b1, -⟩ | ⟨b1, b2, b3⟩
          · omega
          have b2' : tgs (knd (byt B z) j) ≤ 4 := b2
          by_cases er : rel3 (knd (byt B z) j)
          · rw [if_pos er]
            obtain ⟨f1, f2, f3, f4, f5, f6, f7, f8, f9, f10⟩ := relF er
            have st2 : ∀ k, MA (byt B z) (k + (j + 1 - i)) true i S E = MA (byt B z) k true (j + 1) (knd (byt B z) j :: S) E1 := fun k => by
              rw [show k + (j + 1 - i) = (k + 1) + (j - i) by omega, b3, MA_m, if_neg (fun q => f6 q.1), if_neg (fun q => q.elim (fun q => f7 (by rw [← f2]; exact q)) (fun q => by rw [hrel_no hS3] at q; exact absurd q.2 (by decide))), f2, f1, clo_no (by omega)]
            have et : topt (knd (byt B z) j :: S) = 4 := (if_neg f4).trans f3
            have ed : dpt (knd (byt B z) j :: S) = w := by
              show dpt S + (if knd (byt B z) j = 20 ∨ knd (byt B z) j = 21 then 1 else 0) = w
              rw [if_neg (by omega)]; exact hd
            have hs2 := ih 3 w (j + 1) E1 (h + 1) (knd (byt B z) j :: S) (by omega) (by omega) hw (kE hz hB f10) ed (show topt (knd (byt B z) j :: S) ≤ 4 by omega) (fun _ _ => by omega) a1
            cases hgr2 : rd (byt B z) n 3 w (j + 1) E1 with
            | inr q => rw [hgr2] at hs2; rw [rb_r]; exact BAD.go hs2 (by omega) st2
            | inl je =>
              obtain ⟨j2, E2⟩ := je
              rw [hgr2] at hs2
              obtain ⟨u1, u2, u3⟩ := hs2
              rw [rb_l]
              rcases u3 with ⟨c1, -⟩ | ⟨c1, c2, c3⟩
              · omega
              have c2' : tgs (knd (byt B z) j2) ≤ 4 := c2
              have st3 : ∀ k, MA (byt B z) (k + (j2 - i)) true i S E = MA (byt B z) k false j2 (knd (byt B z) j :: S) E2 := fun k => by
                have e1 := st2 (k + (j2 - (j + 1)))
                rw [show k + (j2 - (j + 1)) + (j + 1 - i) = k + (j2 - i) by omega] at e1
                rw [e1, c3]
              refine ⟨by omega, u2, ?_⟩
              by_cases er2 : rel3 (knd (byt B z) j2)
              · obtain ⟨g1, g2, g3, g4, g5, g6, g7, g8, g9, g10⟩ := relF er2
                refine Or.inl ⟨by omega, er2, BAD.go (BAD.now u2 (fun k => ?_)) (by omega) st3⟩
                have eh : hrel (knd (byt B z) j :: S) = true := by
                  show (if knd (byt B z) j = 20 then false else if tgt (knd (byt B z) j) ≤ 4 then decide (tgt (knd (byt B z) j) = 4) else hrel S) = true
                  rw [if_neg f4, if_pos (by omega)]
                  simp; exact f3
                rw [MA_m, if_neg (fun q => g6 q.1), if_pos (Or.inr ⟨g1, eh⟩)]
                unfold finY sExp
                rw [if_neg g9, flt_2 g8]
                split <;> rfl
              · have c4 := relT c2' er2
                refine Or.inr ⟨fun q => er2 q.2, c4, fun k => ?_⟩
                rw [st3, MA_pop f4 (by omega) (by omega)]
                unfold adp
                rw [if_neg f5]
          · rw [if_neg er]
            exact ⟨s1, s2, Or.inr ⟨fun q => er q.2, relT b2' er, b3⟩⟩
    · by_cases m5 : m = 5
      · subst m5
        rw [rd_unit]
        have n9 : ¬ (knd (byt B z) i = 139 ∧ topt S < 4) := fun q => h139 (by decide) q.1 q.2
        by_cases e : canU (knd (byt B z) i) w (E 0 5)
        · rw [if_pos e]
          obtain ⟨e1, e2⟩ := e
          have k2 : 2 ≤ knd (byt B z) i := by omega
          by_cases e4 : knd (byt B z) i = 40
          · rw [if_pos e4]
            have st1 : ∀ k, MA (byt B z) (k + (i + 1 - i)) true i S E = MA (byt B z) k true (i + 1) (20 :: S) (untE E) := fun k => by
              rw [show k + (i + 1 - i) = k + 1 by omega, MA_u, if_neg n9, if_pos e4, if_pos ⟨e2, by omega⟩]
            have ed : dpt (20 :: S) = w + 1 := by
              show dpt S + 1 = w + 1
              omega
            have hs := ih 0 (w + 1) (i + 1) (untE E) h (20 :: S) (by omega) (by omega) (by omega) (kE hz hB k2) ed (Nat.le_refl _) (by omega) (hr.unt e2)
            cases hgr : rd (byt B z) n 0 (w + 1) (i + 1) (untE E) with
            | inr q => rw [hgr] at hs; rw [rb_r]; exact BAD.go hs (by omega) st1
            | inl je =>
              obtain ⟨j, E1⟩ := je
              rw [hgr] at hs
              obtain ⟨s1, s2, s3⟩ := hs
              rw [rb_l]
              unfold sExp
              rcases s3 with ⟨b1, b2, b3⟩ | ⟨b1, b2, b3⟩
              · obtain ⟨g1, g2, g3, g4, g5, g6, g7, g8, g9, g10⟩ := relF b2
                rw [if_neg g6, flt_2 g8]
                exact BAD.go b3 (by omega) st1
              · have b2' : tgs (knd (byt B z) j) ≤ 0 := b2
                have st3 : ∀ k, MA (byt B z) (k + (j - i)) true i S E = MA (byt B z) k false j (20 :: S) E1 := fun k => by
                  have e1 := st1 (k + (j - (i + 1)))
                  rw [show k + (j - (i + 1)) + (i + 1 - i) = k + (j - i) by omega] at e1
                  rw [e1, b3]
                by_cases e41 : knd (byt B z) j = 41
                · rw [if_pos e41]
                  refine ⟨by omega, kE hz hB (by omega), Or.inr ⟨fun q => by omega, tgs_6 _, fun k => ?_⟩⟩
                  rw [show k + (j + 1 - i) = (k + 1) + (j - i) by omega, st3, MA_m, if_pos ⟨e41, rfl⟩]
                  rfl
                · rw [if_neg e41]
                  refine BAD.go (BAD.now s2 (fun k => ?_)) (by omega) st3
                  have e0 : sgk (knd (byt B z) j) = 0 := by
                    rcases tgs_cases (knd (byt B z) j) with ⟨x, y, _⟩ | ⟨x, y, _⟩ | ⟨x, y, _⟩ | ⟨x, y, _⟩ | ⟨x, y, _⟩ | ⟨x, y, _⟩
                    · exact y
                    all_goals omega
                  rw [MA_m, if_neg (fun q => e41 q.1), if_pos (Or.inl e0)]
                  rfl
          · rw [if_neg e4]
            refine ⟨by omega, kE hz hB k2, Or.inr ⟨fun q => by omega, tgs_6 _, fun k => ?_⟩⟩
            rw [show k + (i + 1 - i) = k + 1 by omega, MA_u, if_neg n9, if_neg e4, if_pos (by omega), if_pos e2]
        · rw [if_neg e]
          refine BAD.now hi (fun k => ?_)
          rw [MA_u, if_neg n9]
          by_cases e4 : knd (byt B z) i = 40
          · rw [if_pos e4, if_neg (fun q => e ⟨Or.inr (Or.inr ⟨e4, by omega⟩), q.1⟩)]; rfl
          · rw [if_neg e4]
            by_cases e5 : (140 ≤ knd (byt B z) i ∧ knd (byt B z) i ≤ 145) ∨ knd (byt B z) i = 3
            · rw [if_pos e5, if_neg (fun q => e ⟨e5.elim Or.inl (fun x => Or.inr (Or.inl x)), q⟩)]; rfl
            · rw [if_neg e5]; rfl
      · rw [rd_join _ _ _ _ _ _ m2 m5]
        have hrl := rdy_le (m := m) (by omega)
        have hs := ih (m + 1) w i E h S (by omega) (by omega) hw hi hd (by omega) (fun q => h139 (by omega)) hr
        cases hgr : rd (byt B z) n (m + 1) w i E with
        | inr q => rw [hgr] at hs; rw [rb_r]; exact hs
        | inl je =>
          obtain ⟨j, E1⟩ := je
          rw [hgr] at hs
          obtain ⟨s1, s2, s3⟩ := hs
          obtain ⟨a1, a2, a3, a4⟩ := rd_in hz n (m + 1) w i E h j E1 (by omega) (by omega) hw hgr hr
          rw [rb_l]
          rcases s3 with ⟨b1, b2, b3⟩ | ⟨b1, b2, b3⟩
          · rw [loop_rel b2 (by omega)]
            exact ⟨s1, s2, Or.inl ⟨by omega, b2, b3⟩⟩
          · have lp := sim_loop hz hB (E0 := E0) (g := rd (byt B z) n (m + 1) w) (m := m) (w := w) (S := S) (by omega) m2 hS hd (fun i E h S x1 x2 x3 x4 x5 => ih (m + 1) w i E h S (by omega) (by omega) hw x1 x2 x3 x4 x5) (fun i E h j E' x y => rd_in hz n (m + 1) w i E h j E' (by omega) (by omega) hw x y) 30 j E1 h s2 a1 (by omega) b1 b2
            exact lp.go s1 b3
/-- the whole dusk, with the sign behind it -/
theorem sim_all (hz : z ≤ 1600) (hB : ∀ i, i < z → B i < 256) {i h : Nat} {E : DT} (hi : i ≤ nE (byt B z)) (hr : RI E0 E h) : ∃ K, K ≤ nE (byt B z) + 3 ∧ MA (byt B z) K true i [] E = rb (rd (byt B z) 50 0 0 i E) (fun j E' => sExp (byt B z) 59 j E') := by
  have hs := sim hz hB (E0 := E0) 50 0 0 i E h [] (by omega) (by omega) (by omega) hi rfl (Nat.le_refl _) (by omega) hr
  cases hgr : rd (byt B z) 50 0 0 i E with
  | inr q =>
    rw [hgr] at hs
    obtain ⟨d, d1, d2⟩ := hs
    refine ⟨d, by omega, ?_⟩
    have := d2 0
    rw [Nat.zero_add] at this
    rw [rb_r]; exact this
  | inl je =>
    obtain ⟨j, E1⟩ := je
    rw [hgr] at hs
    obtain ⟨s1, s2, s3⟩ := hs
    rw [rb_l]
    unfold sExp
    rcases s3 with ⟨b1, b2, b3⟩ | ⟨b1, b2, b3⟩
    · obtain ⟨g1, g2, g3, g4, g5, g6, g7, g8, g9, g10⟩ := relF b2
      obtain ⟨d, d1, d2⟩ := b3
      refine ⟨d, by omega, ?_⟩
      have := d2 0
      rw [Nat.zero_add] at this
      rw [if_neg g9, flt_2 g8]; exact this
    · have b2' : tgs (knd (byt B z) j) ≤ 0 := b2
      have e0 : sgk (knd (byt B z) j) = 0 := by
        rcases tgs_cases (knd (byt B z) j) with ⟨x, y, _⟩ | ⟨x, y, _⟩ | ⟨x, y, _⟩ | ⟨x, y, _⟩ | ⟨x, y, _⟩ | ⟨x, y, _⟩
        · exact y
        all_goals omega
      refine ⟨1 + (j - i), by omega, ?_⟩
      rw [b3, MA_m, if_neg (fun q => absurd q.2 (by decide)), if_pos (Or.inl e0)]
      rfl
end SIM
