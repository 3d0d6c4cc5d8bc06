theorem Rel.cache {D : DT} {M M' : AM} (h : Rel D M) (hw : ∀ c k, ¬ (scr c k ∨ (19 ≤ c ∧ c ≤ 22) ∨ (34 ≤ c ∧ c ≤ 37)) → gI M' c k = gI M c k) (hr : ∀ c k, gR M' c k = gR M c k) (hcc : CCH D M' (gR M 0 3)) : Rel D M' := by
  obtain ⟨ok, hC, hM, hB, hT, hS, hL⟩ := h.parts
  refine h.state (fun c k q => hw c k (fun z => q ?_)) (fun c k _ => hr c k) (fun a _ => rfl) h.le (fun j hj => Or.inl (ok.2.2.1 j hj)) ok.2.2.1 ok.2.2.2.1 hcc ?_ ?_ ?_
  · unfold WS
    rcases z with z | z | z <;> simp [z]
  · exact hC.cg (fun c k q => hw c k (by unfold lCS at q; unfold scr; omega)) (fun j => hr 39 j) ok.2.1
  · exact hM.cg (fun c k q => hw c k (by unfold lMS at q; unfold scr; omega))
  · exact hB.cg (fun c k q => hw c k (by unfold lBX at q; unfold scr; omega)) (fun j => hr 82 j)
theorem Both.ofR {α : Type} {fC fM : AM → Option (α × AM)} (ans : DT → α) (hC : ∀ D M, Rel D M → ∃ M1, fC M = some (ans D, M1) ∧ Rel D M1) (hM : ∀ D M, Rel D M → ∃ M1, fM M = some (ans D, M1) ∧ Rel D M1) : Both fC fM := by
  intro D M hR
  obtain ⟨M1, h1, h2⟩ := hC D M hR
  obtain ⟨M2, h3, h4⟩ := hM D M1 h2
  exact ⟨_, M1, M2, D, h1, h3, h4⟩
theorem B_dusk : Both f_C_dusk f_Mo_dusk := by
  intro D M h
  obtain ⟨ok, hC, hM, hB, hT, hS, hL⟩ := h.parts
  unfold f_C_dusk f_Mo_dusk
  have hs := h.curS
  have hn9 := hs.2.2.1
  by_cases h9 : D (10 + D 7 0) 3 = 999
  · refine ⟨-1, M, M, D, ?_, ?_, h⟩
    · rw [cur_ok h, bnd_s, cst h (by decide), h9, if_neg (by decide)]
    · rw [now_ald h 3 3 rfl (by decide), h9, if_pos (by decide)]
  · have hl := opn_le h.le40
    have hor := h.2.2.1.or
    obtain ⟨M0, o1, o2, o3, o4⟩ := open_ok hC h.le
    have hcell := o2.2.2.1 (opn D 7 0) (by omega)
    have hcur : ∀ i, i < 5 → gI M0 (gR M0 39 (opn D 7 0)) i = nI (D (10 + D 7 0) i) := fun i hi => by rw [o2.2.2.2.2 _ i hl.1 hi, opn_cur h.le40]
    generalize hr : gR M0 39 (opn D 7 0) = r at hcell hcur o1
    have e03 : gR M0 0 3 = gR M 0 3 := o4 0 3 (by decide)
    have hP0 : PL D M0 (gR M 0 3) := h.2.2.2.1.cg hor (fun c k q => o3 c k (by unfold lPL at q; unfold lCS; omega))
    have hc0 : CCH D M0 (gR M 0 3) := h.2.2.2.2.1.cg hor (fun c k q => o3 c k (by unfold lPL at q; unfold lCS; omega))
    obtain ⟨M1, w1, w2, w3, w4, w5, w6, w7, w8⟩ := passDusk_ok (g := 1) hor (by omega : 40 ≤ r ∧ r ≤ 81) h.1 hP0 hc0 h.pic (by omega : D (10 + D 7 0) 3 < 2 ^ 30) hs.2.2.2 (hcur 0 (by decide)) (hcur 3 (by decide)) (hcur 4 (by decide)) (Nat.le_refl 1)
    rw [if_neg (by decide)] at w4
    generalize hv : gst D (dsk D (D (10 + D 7 0) 0) (D (10 + D 7 0) 3)) (nxs (D (10 + D 7 0) 4)) = v at w4
    have hvl : v < 2 ^ D 0 0 := by rw [← hv]; exact gst_lt (dsk_lt h.pic)
    have fM1 : ∀ c k, ¬ (lCS c k ∨ (19 ≤ c ∧ c ≤ 22) ∨ (34 ≤ c ∧ c ≤ 37)) → gI M1 c k = gI M c k := fun c k q => by
      rw [w7 c k (by omega) (fun z => q (Or.inl (by unfold lCS; omega))), o3 c k (fun z => q (Or.inl z))]
    have hM1' : MST D M1 := hM.cg (fun c k q => fM1 c k (by unfold lMS at q; unfold lCS; omega))
    have hMP : MPL D M1 := h.2.2.2.2.2.1.cg (fun c k q => fM1 c k (by unfold lMP at q; unfold lCS; omega))
    obtain ⟨N0, p1, p2, p3, p4⟩ := act_ok hM1' h.le
    have hn : ∀ i, i < 5 → gI N0 123 i = nI (D (10 + D 7 0) i) := fun i hi => by rw [p2.2.2.1 i hi, opn_cur h.le40]
    have hMP0 : MPL D (sI N0 105 54 (nI (D (10 + D 7 0) 4))) := hMP.cg (fun c k q => by rw [gI_sI, if_neg (by unfold lMP at q; omega), p3 c k (by unfold lMP at q; unfold lMS; omega)])
    obtain ⟨N1, g1, g2, g3, g4⟩ := gustyDusk_ok (night := D (10 + D 7 0) 3) h.1 hMP0 h.pic rfl hs.2.2.2
    rw [hv] at g1
    have hn1 : ∀ i, i < 5 → gI N1 123 i = nI (D (10 + D 7 0) i) := fun i hi => by rw [g3 _ _ (by omega) (by omega) (by omega), gI_sI, if_neg (by omega)]; exact hn i hi
    generalize hN2 : sI (sI (sI N1 123 0 (nI v)) 123 4 (nI (nxs (D (10 + D 7 0) 4)))) 123 3 (nI (D (10 + D 7 0) 3 + 1)) = N2
    refine ⟨nI v, M1, N2, setc (opn D) (at1 (at1 (at1 (D (10 + D 7 0)) 0 v) 4 (nxs (D (10 + D 7 0) 4))) 3 (D (10 + D 7 0) 3 + 1)), ?_, ?_, ?_⟩
    · rw [cur_ok h, bnd_s, cst h (by decide), if_pos (show nI (D (10 + D 7 0) 3) < 999 from nI_lt (b := 999) (by omega) (by decide)), o1, bnd_s, e03, ckK_eq (pl_kd h), show (1 : Int32) = nI 1 from rfl, w1, bnd_s, w4]
    · rw [show ald 5 M1 123 3 = ald 5 M1 123 (nI 3) from rfl, ald_nI (by decide) (by decide), hM1'.2.2.1 3 (by decide), if_neg (show ¬ nI (D (10 + D 7 0) 3) = 999 from fun q => h9 ((nI_eq (b := 999) (by omega) (by decide)).mp q)), p1, bnd_s]
      rw [nI_lit 4, ald_nI (by decide) (by decide), hn 4 (by decide), wI_eq, nI_lit 0, ald_nI (by decide) (by decide), show gI (sI N0 105 54 (nI (D (10 + D 7 0) 4))) 123 0 = nI (D (10 + D 7 0) 0) from hn 0 (by decide), nI_lit 3, ald_nI (by decide) (by decide), show gI (sI N0 105 54 (nI (D (10 + D 7 0) 4))) 123 3 = nI (D (10 + D 7 0) 3) from hn 3 (by decide), g1, bnd_s]
      rw [ast_nI (by decide) (by decide), show gI (sI N1 123 0 (nI v)) 105 54 = nI (nxs (D (10 + D 7 0) 4)) from g2, ast_nI (by decide) (by decide), ald_nI (by decide) (by decide), show gI (sI (sI N1 123 0 (nI v)) 123 4 (nI (nxs (D (10 + D 7 0) 4)))) 123 3 = nI (D (10 + D 7 0) 3) from hn1 3 (by decide), nI_1, ast_nI (by decide) (by decide), ald_nI (by decide) (by decide), hN2, ← hN2]
      rfl
    · have hnx := nxs_lt (D (10 + D 7 0) 4)
      refine h.act' _ ?_ o2 o3 o4 (M1 := M1) (fun i hi => ?_) (fun c k q q2 => ?_) w8 p2 p3 p4 (fun i hi => ?_) (fun c k q q2 => ?_) (fun c k => ?_) w3
      · rw [at1_n (by decide), at1_n (by decide), at1_s, at1_n (by decide), at1_n (by decide), at1_n (by decide), at1_s, at1_n (by decide), at1_s]
        exact ⟨hvl, hs.2.1, by omega, hnx⟩
      · rw [hr]
        by_cases h3 : i = 3
        · rw [h3, at1_s]; exact w5
        · rw [at1_n h3]
          by_cases h4 : i = 4
          · rw [h4, at1_s]; exact w6
          · rw [at1_n h4]
            by_cases h0 : i = 0
            · rw [h0, at1_s]; exact w4
            · rw [at1_n h0, w7 _ _ (by omega) (by omega)]; exact hcur i hi
      · rw [hr] at q
        exact w7 c k (by omega) (by omega)
      · rw [← hN2, gI_sI]
        by_cases h3 : i = 3
        · rw [if_pos ⟨rfl, h3⟩, h3, at1_s]
        · rw [if_neg (by omega), at1_n h3, gI_sI]
          by_cases h4 : i = 4
          · rw [if_pos ⟨rfl, h4⟩, h4, at1_s]
          · rw [if_neg (by omega), at1_n h4, gI_sI]
            by_cases h0 : i = 0
            · rw [if_pos ⟨rfl, h0⟩, h0, at1_s]
            · rw [if_neg (by omega), at1_n h0]; exact hn1 i hi
      · have q3 : c ≠ 113 ∧ c ≠ 114 ∧ ¬ (c = 105 ∧ k = 54) := by unfold scr at q2; omega
        rw [← hN2, gI_sI, if_neg (by omega), gI_sI, if_neg (by omega), gI_sI, if_neg (by omega), g3 c k q3.1 q3.2.1 q3.2.2, gI_sI, if_neg q3.2.2]
      · rw [← hN2, gR_sI, gR_sI, gR_sI, g4, gR_sI]
/-- some dusks on -/
def wls (D : DT) : Nat → Nat
  | 0 => D (10 + D 7 0) 4
  | k + 1 => nxs (wls D k)
def wlp (D : DT) (g : Nat) : Nat → Nat
  | 0 => D (10 + D 7 0) 0
  | k + 1 => if g = 0 then dsk D (wlp D g k) (D (10 + D 7 0) 3 + k) else gst D (dsk D (wlp D g k) (D (10 + D 7 0) 3 + k)) (nxs (wls D k))
theorem wls_lt {D : DT} {M : AM} (h : Rel D M) : ∀ k, wls D k < 1000 := by
  intro k
  cases k with
  | zero => exact h.st.2.2.2
  | succ k => exact nxs_lt _
theorem wlp_lt {D : DT} {M : AM} (h : Rel D M) (g : Nat) : ∀ k, wlp D g k < 2 ^ D 0 0 := by
  intro k
  induction k with
  | zero => exact h.pic
  | succ k ih =>
    unfold wlp
    split
    · exact dsk_lt ih
    · exact gst_lt (dsk_lt ih)
/-- the class's trial stands k dusks on -/
def TRI (D : DT) (g k : Nat) (M : AM) : Prop := gI M 81 0 = nI (wlp D g k) ∧ gI M 81 3 = nI (D (10 + D 7 0) 3 + k) ∧ gI M 81 4 = nI (wls D k)
theorem trial_0 {D : DT} {M : AM} (h : Rel D M) (g : Nat) : ∃ M', f_State_become 81 (gR M 39 (D 7 0)) M = some ((), M') ∧ Rel D M' ∧ TRI D g 0 M' ∧ ∀ c k, c ≠ 81 → gI M' c k = gI M c k := by
  have hcell := h.cell
  obtain ⟨M1, b1, b2, b3⟩ := become_ok (M := M) (d := 81) (s := gR M 39 (D 7 0)) (by omega)
  refine ⟨M1, b1, h.sm ⟨b3, fun c k q => ?_⟩, ⟨?_, ?_, ?_⟩, fun c k q => ?_⟩
  · rw [b2, if_neg (fun z => q (by unfold scr; omega))]
  · rw [b2, if_pos (by omega)]; exact cst h (by decide)
  · rw [b2, if_pos (by omega)]; exact cst h (by decide)
  · rw [b2, if_pos (by omega)]; exact cst h (by decide)
  · rw [b2, if_neg (by omega)]
theorem trial_1 {D : DT} {M : AM} (h : Rel D M) {g k : Nat} (hg : g ≤ 1) (hk : k ≤ 1000) (ht : TRI D g k M) : ∃ M', f_State_passDusk 81 (gR M 0 3) (nI g) M = some ((), M') ∧ Rel D M' ∧ TRI D g (k + 1) M' ∧ ∀ c k, c = 104 → gI M' c k = gI M c k := by
  have hor := h.2.2.1.or
  have hs := h.st
  obtain ⟨M', w1, w2, w3, w4, w5, w6, w7, w8⟩ := passDusk_ok hor (by omega : 40 ≤ 81 ∧ 81 ≤ 81) h.1 h.2.2.2.1 h.2.2.2.2.1 (wlp_lt h g k) (by have := hs.2.2.1; omega) (wls_lt h k) ht.1 ht.2.1 ht.2.2 hg
  refine ⟨M', w1, h.cache (fun c k q => w7 c k (fun z => q (by omega)) (fun z => q (Or.inl (by unfold scr; omega)))) w8 w3, ⟨?_, ?_, ?_⟩, fun c k q => w7 c k (by omega) (by omega)⟩
  · rw [w4]; rfl
  · rw [w5]; rfl
  · rw [w6]; rfl
theorem C_will_ok {D : DT} {M : AM} (h : Rel D M) {n g : Nat} (hn : n ≤ 60) (hg : g ≤ 1) : ∃ M1, f_C_will (nI n) (nI g) M = some (nI (wlp D g n), M1) ∧ Rel D M1 := by
  unfold f_C_will
  obtain ⟨M1, b1, b2, b3, _⟩ := trial_0 h g
  have key : ∃ o, f_C_will_l37 (nI n) (nI g) fu 0 M1 = some o ∧ (Rel D o.2 ∧ TRI D g n o.2) := by
    refine for_inv (fun z (s : Int32 × AM) => f_C_will_l37 (nI n) (nI g) z s.1 s.2) (fun k s => s.1 = nI k ∧ Rel D s.2 ∧ TRI D g k s.2) n _ (fun k s z hk hI => ?_) (fun s z hI => ?_) n 0 (0, M1) fu (by omega) (by rw [fu_eq]; omega) ⟨rfl, b2, b3⟩
    · obtain ⟨v, N⟩ := s
      obtain ⟨rfl, i1, i2⟩ := hI
      simp only at i1 i2
      left
      obtain ⟨N', w1, w2, w3, _⟩ := trial_1 i1 hg (by omega) i2
      refine ⟨(nI (k + 1), N'), ⟨rfl, w2, w3⟩, ?_⟩
      show f_C_will_b37 (f_C_will_l37 (nI n) (nI g) z) (nI n) (nI g) (nI k) N = _
      unfold f_C_will_b37 f_C_will_j60
      rw [if_neg (nI_ge hk (by omega)), ckK_eq (pl_kd i1)]
      rcases (show g = 0 ∨ g = 1 by omega) with rfl | rfl
      · rw [if_neg (by decide), nI_lit 0, w1, bnd_s, nI_1]
      · rw [if_pos (by decide), show f_State_passDusk 81 (gR N 0 3) 1 = f_State_passDusk 81 (gR N 0 3) (nI 1) from rfl, w1, bnd_s, nI_1]
    · obtain ⟨v, N⟩ := s
      obtain ⟨rfl, i1, i2⟩ := hI
      refine ⟨((), N), ?_, i1, i2⟩
      show f_C_will_b37 (f_C_will_l37 (nI n) (nI g) z) (nI n) (nI g) (nI n) N = _
      unfold f_C_will_b37
      rw [if_pos (nI_le (Nat.le_refl _) (by omega))]
  obtain ⟨⟨u, N⟩, k1, k2, k3⟩ := key
  refine ⟨N, ?_, k2⟩
  rw [if_neg (nI_pos (by omega)), if_neg (show ¬ (60 : Int32) < nI n from nI_nlt (a := 60) (by omega) (by decide)), if_neg (nI_pos (by omega)), if_pos (show nI g ≤ 1 from nI_le (b := 1) (by omega) (by decide)), cur_ok h, bnd_s, b1, bnd_s, k1, bnd_s, k3.1]
theorem Mo_will_ok {D : DT} {M : AM} (h : Rel D M) {n g : Nat} (hn : n ≤ 60) (hg : g ≤ 1) : ∃ M1, f_Mo_will (nI n) (nI g) M = some (nI (wlp D g n), M1) ∧ Rel D M1 := by
  unfold f_Mo_will
  have hs := h.st
  have h1 : Rel D (sI M 105 54 (nI (D (10 + D 7 0) 4))) := h.sm (Sm.rfl'.sI (by unfold scr; omega))
  have key : ∃ o, f_Mo_will_l41 (nI n) (nI g) fu (nI (wlp D g 0)) 0 (sI M 105 54 (nI (D (10 + D 7 0) 4))) = some o ∧ (o.1 = nI (wlp D g n) ∧ Rel D o.2) := by
    refine for_inv (fun z (s : Int32 × Int32 × AM) => f_Mo_will_l41 (nI n) (nI g) z s.1 s.2.1 s.2.2) (fun k s => s.1 = nI (wlp D g k) ∧ s.2.1 = nI k ∧ Rel D s.2.2 ∧ (g = 1 → gI s.2.2 105 54 = nI (wls D k))) n _ (fun k s z hk hI => ?_) (fun s z hI => ?_) n 0 (nI (wlp D g 0), 0, sI M 105 54 (nI (D (10 + D 7 0) 4))) fu (by omega) (by rw [fu_eq]; omega) ⟨rfl, rfl, h1, fun _ => rfl⟩
    · obtain ⟨v1, v2, N⟩ := s
      obtain ⟨rfl, rfl, i1, i2⟩ := hI
      simp only at i1 i2
      left
      rcases (show g = 0 ∨ g = 1 by omega) with rfl | rfl
      · obtain ⟨N', w1, w2, w3⟩ := duskOf_ok (night := D (10 + D 7 0) 3 + k) i1.1 i1.2.2.2.2.2.1 (wlp_lt h 0 k)
        refine ⟨(nI (wlp D 0 (k + 1)), nI (k + 1), N'), ⟨rfl, rfl, i1.sm ⟨w3, fun c k q => w2 c k (fun z => q (by unfold scr; omega)) (fun z => q (by unfold scr; omega))⟩, fun q => absurd q (by decide)⟩, ?_⟩
        show f_Mo_will_b41 (f_Mo_will_l41 (nI n) (nI 0) z) (nI n) (nI 0) (nI (wlp D 0 k)) (nI k) N = _
        unfold f_Mo_will_b41
        rw [if_neg (nI_ge hk (by omega)), if_neg (by decide), now_ald i1 3 3 rfl (by decide), nI_add, w1, bnd_s, nI_1]
        rfl
      · obtain ⟨N', w1, w2, w3, w4⟩ := gustyDusk_ok (night := D (10 + D 7 0) 3 + k) i1.1 i1.2.2.2.2.2.1 (wlp_lt h 1 k) (i2 rfl) (wls_lt h k)
        refine ⟨(nI (wlp D 1 (k + 1)), nI (k + 1), N'), ⟨rfl, rfl, i1.sm ⟨w4, fun c k q => w3 c k (fun z => q (by unfold scr; omega)) (fun z => q (by unfold scr; omega)) (fun z => q (by unfold scr; omega))⟩, fun _ => w2⟩, ?_⟩
        show f_Mo_will_b41 (f_Mo_will_l41 (nI n) (nI 1) z) (nI n) (nI 1) (nI (wlp D 1 k)) (nI k) N = _
        unfold f_Mo_will_b41
        rw [if_neg (nI_ge hk (by omega)), if_pos (by decide), now_ald i1 3 3 rfl (by decide), nI_add, w1, bnd_s, nI_1]
        rfl
    · obtain ⟨v1, v2, N⟩ := s
      obtain ⟨rfl, rfl, i1, i2⟩ := hI
      refine ⟨(nI (wlp D g n), N), ?_, rfl, i1⟩
      show f_Mo_will_b41 (f_Mo_will_l41 (nI n) (nI g) z) (nI n) (nI g) (nI (wlp D g n)) (nI n) N = _
      unfold f_Mo_will_b41
      rw [if_pos (nI_le (Nat.le_refl _) (by omega))]
  obtain ⟨⟨v, N⟩, k1, k2, k3⟩ := key
  simp only at k2
  refine ⟨N, ?_, k3⟩
  have e60 : (60 : Int32) = nI 61 - 1 := by decide
  have e1 : nI g = 0 ∨ nI g = 1 := by rcases (show g = 0 ∨ g = 1 by omega) with rfl | rfl <;> simp [nI_0, nI_lit 1]
  rw [e60, isIn_in (by omega) (by decide), bnd_s, if_neg (by decide), isIn01, bnd_s, if_pos e1, if_neg (by decide), now_ald h 0 0 rfl (by decide), now_ald h 4 4 rfl (by decide), wI_eq]
  rw [show nI (D (10 + D 7 0) 0) = nI (wlp D g 0) from rfl, k1, bnd_s, k2]
theorem B_will (a b : Int32) : Both (f_C_will a b) (f_Mo_will a b) := by
  rcases in_cases a 61 (by decide) with ⟨n, hn, rfl⟩ | ho
  · rcases in_cases b 2 (by decide) with ⟨g, hg, rfl⟩ | hb
    · exact Both.ofR (fun D => nI (wlp D g n)) (fun D M h => C_will_ok h (by omega) (by omega)) (fun D M h => Mo_will_ok h (by omega) (by omega))
    · refine Both.pure fun D M h => ⟨-1, ?_, ?_⟩
      · unfold f_C_will
        rw [if_neg (nI_pos (by omega)), if_neg (show ¬ (60 : Int32) < nI n from nI_nlt (a := 60) (by omega) (by decide))]
        by_cases h0 : b < 0
        · rw [if_pos h0]
        · rw [if_neg h0, if_neg]
          have h1 := hb.resolve_left h0
          rw [Int32.le_iff_toInt_le] at h1 ⊢
          have e1 : (nI 2).toInt = 2 := by decide
          have e2 : (1 : Int32).toInt = 1 := by decide
          omega
      · unfold f_Mo_will
        have e60 : (60 : Int32) = nI 61 - 1 := by decide
        have e1 : (1 : Int32) = nI 2 - 1 := by decide
        rw [e60, isIn_in (by omega) (by decide), bnd_s, if_neg (by decide), e1, isIn_out hb (by decide), bnd_s, if_pos rfl]
  · refine Both.pure fun D M h => ⟨-1, ?_, ?_⟩
    · unfold f_C_will
      by_cases h0 : a < 0
      · rw [if_pos h0]
      · rw [if_neg h0, if_pos]
        have h1 := ho.resolve_left h0
        rw [Int32.le_iff_toInt_le] at h1
        rw [Int32.lt_iff_toInt_lt]
        have e1 : (nI 61).toInt = 61 := by decide
        have e2 : (60 : Int32).toInt = 60 := by decide
        omega
    · unfold f_Mo_will
      have e60 : (60 : Int32) = nI 61 - 1 := by decide
      rw [e60, isIn_out ho (by decide), bnd_s, if_pos rfl]
