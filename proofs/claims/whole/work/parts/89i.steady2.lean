/-! steady -/
def WL (c k : Nat) : Prop := lLI c k ∨ scr c k
theorem Rel.lie {D : DT} {M M' : AM} (h : Rel D M) {n : Nat} (hn : n ≤ 256) (hw : Wr WL M M') (h1 : gI M' 92 7 = nI n) (h2 : gI M' 105 59 = nI n) (h3 : ∀ i, i < n → gI M' 98 i = gI M' 126 i) : Rel (rw1 D 9 (at1 (D 9) 3 n)) M' := by
  obtain ⟨ok, hC, hM, hB, hT, hS, hL⟩ := h.parts
  have e : ∀ a, a ≠ 9 → rw1 D 9 (at1 (D 9) 3 n) a = D a := fun a x => rw1_n x
  have e9 : rw1 D 9 (at1 (D 9) 3 n) 9 = at1 (D 9) 3 n := rw1_s _ _ _
  have q0 : rw1 D 9 (at1 (D 9) 3 n) 9 0 = D 9 0 := by rw [e9, at1_n (by decide)]
  have q1 : rw1 D 9 (at1 (D 9) 3 n) 9 1 = D 9 1 := by rw [e9, at1_n (by decide)]
  have q2 : rw1 D 9 (at1 (D 9) 3 n) 9 2 = D 9 2 := by rw [e9, at1_n (by decide)]
  have q3 : rw1 D 9 (at1 (D 9) 3 n) 9 3 = n := by rw [e9, at1_s]
  obtain ⟨k1, k2, k3, k4, k5, k6, k7, k8, k9, k10⟩ := id ok
  have g : ∀ (l : Nat → Nat → Prop), (∀ c k, l c k → ¬ WL c k) → Kp l M M' := fun l hl c k q => hw.2 c k (hl c k q)
  refine h.upd _ hw (fun a ha => e a (by omega)) ?_ (fun c k q => by unfold WL lLI scr at q; unfold lPL; omega) (fun c k q => by unfold WL lLI scr at q; unfold lMP; omega) ?_ ?_ ?_ ?_ ?_ ?_
  · refine ok.dg (e 0 (by decide)) (e 7 (by decide)) (e 8 (by decide)) (fun j hj => e _ (by omega)) (fun b hb => e _ (by omega)) ?_ ?_ ?_ ?_ ?_ ?_
    · rw [q0]; exact k5
    · rw [q1]; exact k6
    · rw [q2]; exact k7
    · rw [q3]; exact hn
    · rw [q0, e 52 (by decide)]; exact k9
    · rw [q1, q2, e 53 (by decide), e 54 (by decide), e 55 (by decide)]; exact k10
  · exact (hC.cg (g _ (fun c k q => by unfold lCS at q; unfold WL lLI scr; omega)) (fun j => hw.1 39 j) k2).dg (e 7 (by decide)) (fun j hj => e _ (by omega)) k2
  · exact (hM.cg (g _ (fun c k q => by unfold lMS at q; unfold WL lLI scr; omega))).dg (e 7 (by decide)) (fun j hj => e _ (by omega)) k2 k1
  · exact (hB.cg (g _ (fun c k q => by unfold lBX at q; unfold WL lLI scr; omega)) (fun j => hw.1 82 j)).dg (e 8 (by decide)) (fun b hb => e _ (by omega))
  · exact (hT.cg (g _ (fun c k q => by unfold lTP at q; unfold WL lLI scr; omega))).dg q0 (e 52 (by decide))
  · exact (hS.cg (g _ (fun c k q => by unfold lSG at q; unfold WL lLI scr; omega))).dg q1 q2 (e 53 (by decide)) (e 54 (by decide)) (e 55 (by decide))
  · unfold LIE
    rw [q3]
    exact ⟨h1, h2, h3⟩
theorem Wr.ofSm {M N : AM} (h : Sm M N) : Wr WL M N := ⟨h.1, fun c k q => h.2 c k (fun z => q (Or.inr z))⟩
theorem lliW : WL 92 7 ∧ (∀ j, WL 98 j) ∧ (∀ j, WL 126 j) ∧ WL 105 59 := by
  unfold WL lLI
  refine ⟨?_, fun j => ?_, fun j => ?_, ?_⟩ <;> omega
/-- the way back to where it began -/
def ptb (PF : Nat → Nat) (t : Nat) : Nat → Nat
  | 0 => t
  | k + 1 => PF (ptb PF t k)
theorem ptb_s (PF : Nat → Nat) (t k : Nat) : ptb PF t (k + 1) = PF (ptb PF t k) := rfl
theorem ptb_L {G : GRT} {L : Nat → Option Nat} {ps PF CB : Nat → Nat} (hc : CAM G L ps PF CB) {t n : Nat} (ht : L t = some n) : ∀ k, k ≤ n → L (ptb PF t k) = some (n - k) := by
  intro k
  induction k with
  | zero => intro _; exact ht
  | succ k ih =>
    intro hk
    have := ih (by omega)
    rw [show n - k = (n - (k + 1)) + 1 by omega] at this
    exact (hc.1 _ _ this).1
def dw1 (n k : Nat) : Int32 := if k < n then nI (n - 1 - k) else -1
theorem dw1_s {n k : Nat} (h : k < n) : nI (n - 1 - k) + (-1) = dw1 n (k + 1) := by
  unfold dw1
  by_cases e : k + 1 < n
  · rw [if_pos e, show n - 1 - k = (n - 1 - (k + 1)) + 1 by omega, pk_m1]
  · rw [if_neg e, show n - 1 - k = 0 by omega]; rfl
theorem layRow_ok {D : DT} {N : AM} {L : Nat → Option Nat} {R : Nat → Int32} {ps PF CB : Nat → Nat} (hS : SPR D N L R ps PF CB) {t : Nat} (ht : t < 256) : ∃ N', f_Paths_layRow (nI t) N = some (lvI (L t), N') ∧ Wr WL N N' ∧ (L t = none → gI N' 92 7 = 0) ∧ ∀ n, L t = some n → gI N' 92 7 = nI n ∧ ∀ i, i < n → gI N' 98 i = nI (CB (ptb PF t (n - (i + 1)))) := by
  obtain ⟨s1, s2, s3, s4, s5, s6, s7⟩ := hS
  unfold f_Paths_layRow
  rw [ald_nI ht (by decide), s3 t ht, wI_eq]
  cases hL : L t with
  | none =>
    refine ⟨sI N 92 7 0, ?_, Wr.rfl'.sI lliW.1, fun _ => rfl, fun n e => by cases e⟩
    rw [if_pos (show lvI none < 0 by decide)]
    obtain ⟨z, hz⟩ : ∃ z, fu = z + 1 := ⟨999999, fu_eq⟩
    have e : f_Paths_layRow_l26 (lvI none) fu (nI t) (gI (sI N 92 7 0) 92 7 - 1) (sI N 92 7 0) = some ((), sI N 92 7 0) := by
      rw [hz]
      show f_Paths_layRow_b26 _ _ _ (0 - 1) _ = _
      unfold f_Paths_layRow_b26
      rw [if_pos (by decide)]
    rw [e, bnd_s]
  | some n =>
    have hn := (s6 t n hL).2
    rw [if_neg (lvI_pos hn)]
    have hpl := ptb_L s2 hL
    have h7 : gI (sI N 92 7 (lvI (some n))) 92 7 - 1 = dw1 n 0 := by
      show nI n - 1 = _
      unfold dw1
      by_cases e : 0 < n
      · rw [if_pos e, nI_sub1 e, Nat.sub_zero]
      · rw [if_neg e, show n = 0 by omega]; rfl
    have key : ∃ o, f_Paths_layRow_l26 (lvI (some n)) fu (nI t) (dw1 n 0) (sI N 92 7 (lvI (some n))) = some o ∧ ((∀ c k, gR o.2 c k = gR N c k) ∧ (∀ i, i < n → gI o.2 98 i = nI (CB (ptb PF t (n - (i + 1))))) ∧ ∀ c k, c ≠ 98 → gI o.2 c k = gI (sI N 92 7 (lvI (some n))) c k) := by
      refine for_inv (fun z (q : Int32 × Int32 × AM) => f_Paths_layRow_l26 (lvI (some n)) z q.1 q.2.1 q.2.2) (fun k q => q.1 = nI (ptb PF t k) ∧ q.2.1 = dw1 n k ∧ (∀ c k, gR q.2.2 c k = gR N c k) ∧ (∀ i, n - k ≤ i → i < n → gI q.2.2 98 i = nI (CB (ptb PF t (n - (i + 1))))) ∧ ∀ c k, c ≠ 98 → gI q.2.2 c k = gI (sI N 92 7 (lvI (some n))) c k) n _ (fun k q z hk hI => ?_) (fun q z hI => ?_) n 0 (nI t, dw1 n 0, sI N 92 7 (lvI (some n))) fu (by omega) (by rw [fu_eq]; omega) ⟨rfl, rfl, fun _ _ => rfl, fun i h1 h2 => by omega, fun _ _ _ => rfl⟩
      · obtain ⟨v1, v2, K⟩ := q
        obtain ⟨rfl, rfl, i1, i2, i3⟩ := hI
        simp only at i1 i2 i3
        left
        have hLk := hpl k (by omega)
        have hk256 := (s6 _ _ hLk).1
        have hLk1 := hpl (k + 1) (by omega)
        have hk1256 := (s6 _ _ hLk1).1
        rw [show n - k = (n - (k + 1)) + 1 by omega] at hLk
        have hcam := s5 _ _ hLk
        have g95 : gI K 95 (ptb PF t k) = nI (CB (ptb PF t k)) := by rw [i3 _ _ (by decide), gI_sI, if_neg (by omega)]; exact hcam.2
        have g94 : ∀ w, gI (sI K 98 (n - 1 - k) w) 94 (ptb PF t k) = nI (PF (ptb PF t k)) := fun w => by rw [gI_sI, if_neg (by omega), i3 _ _ (by decide), gI_sI, if_neg (by omega)]; exact hcam.1
        have hd : dw1 n k = nI (n - 1 - k) := if_pos hk
        refine ⟨(nI (ptb PF t (k + 1)), dw1 n (k + 1), sI K 98 (n - 1 - k) (nI (CB (ptb PF t k)))), ⟨rfl, rfl, i1, fun i h1 h2 => ?_, fun c j hc => ?_⟩, ?_⟩
        · show gI (sI _ _ _ _) 98 i = _
          rw [gI_sI]
          by_cases e : i = n - 1 - k
          · rw [if_pos ⟨rfl, e⟩, show n - (i + 1) = k by omega]
          · rw [if_neg (fun y => e y.2)]; exact i2 i (by omega) h2
        · show gI (sI _ _ _ _) c j = _
          rw [gI_sI, if_neg (fun y => hc y.1)]; exact i3 c j hc
        · show f_Paths_layRow_l26 (lvI (some n)) (z + 1) (nI (ptb PF t k)) (dw1 n k) K = _
          rw [hd]
          show f_Paths_layRow_b26 (f_Paths_layRow_l26 (lvI (some n)) z) (lvI (some n)) (nI (ptb PF t k)) (nI (n - 1 - k)) K = _
          unfold f_Paths_layRow_b26
          rw [if_neg (nI_pos (by omega)), ald_nI hk256 (by decide), g95, ast_nI (by omega) (by decide), ald_nI hk256 (by decide), g94, dw1_s hk, ptb_s]
      · obtain ⟨v1, v2, K⟩ := q
        obtain ⟨rfl, rfl, i1, i2, i3⟩ := hI
        simp only at i1 i2 i3
        refine ⟨((), K), ?_, i1, fun i hi => i2 i (by omega) hi, i3⟩
        have hd : dw1 n n = -1 := if_neg (by omega)
        show f_Paths_layRow_b26 (f_Paths_layRow_l26 (lvI (some n)) z) (lvI (some n)) (nI (ptb PF t n)) (dw1 n n) K = _
        unfold f_Paths_layRow_b26
        rw [hd, if_pos (by decide)]
    obtain ⟨⟨u, N'⟩, k1, k2, k3, k4⟩ := key
    simp only at k2 k3 k4
    refine ⟨N', ?_, ⟨k2, fun c k q => ?_⟩, (fun e => by cases e), fun m e => ?_⟩
    · rw [h7, k1, bnd_s]
    · rw [k4 c k (fun e => q (by rw [e]; exact lliW.2.1 k)), gI_sI, if_neg (fun e => q (by rw [e.1, e.2]; exact lliW.1))]
    · cases e
      exact ⟨by rw [k4 92 7 (by decide)]; rfl, k3⟩
theorem fvI_eq {o : Option Nat} {m : Nat} (ho : ∀ k, o = some k → k < 256) (hm : m < 256) : fvI o = nI m ↔ o = some m := by
  cases o with
  | none =>
    constructor
    · intro e; have := (nI_eq (a := 1000000) (by decide) (by omega)).mp e; omega
    · intro e; cases e
  | some k =>
    have := ho k rfl
    constructor
    · intro e; rw [(nI_eq (by omega) (by omega)).mp e]
    · intro e; cases e; rfl
/-- the reference goes the same way -/
theorem Mo_steadyL {D : DT} {M0 M : AM} (h : Rel D M0) (hW : MW D M) {t n : Nat} (htp : t < 2 ^ D 0 0) {L B : Nat → Option Nat} {R H : Nat → Int32} {ps PF CB : Nat → Nat} (hf : FWD (gph D) (D (10 + D 7 0) 0) L R) (hcam : CAM (gph D) L ps PF CB) (hl : ∀ v n, L v = some n → v < 256 ∧ n < 256) (hb : BWD (gph D) t B H) (hM : MFR M B H) (hbl : ∀ v k, B v = some k → v < 256 ∧ k < 256) (ht : L t = some n) (h0 : gI M 105 59 = 0) : ∃ M', f_Mo_steady_l41 (nI t) fu (nI (D (10 + D 7 0) 0)) M = some ((), M') ∧ ((∀ c k, gR M' c k = gR M c k) ∧ ∀ c k, c ≠ 126 → ¬ (c = 105 ∧ k = 59) → gI M' c k = gI M c k) ∧ gI M' 105 59 = nI n ∧ ∀ i, i < n → gI M' 126 i = nI (CB (ptb PF t (n - (i + 1)))) := by
  have hnc := h.1.2.1
  have h256l := p2_le h.1.1
  have hle8 := h.1.2.2.2.1
  have hn := (hl t n ht).2
  have hpl := ptb_L hcam ht
  have hw0 : ptb PF t (n - 0) = D (10 + D 7 0) 0 := by
    have := hpl n (Nat.le_refl _)
    rw [Nat.sub_self] at this
    exact hf.2.2.1 _ this
  have hLw : ∀ i, i ≤ n → L (ptb PF t (n - i)) = some i := fun i hi => by
    have := hpl (n - i) (by omega)
    rw [show n - (n - i) = i by omega] at this
    exact this
  have hww : ∀ i, i < n → ptb PF t (n - i) = PF (ptb PF t (n - (i + 1))) ∧ L (ptb PF t (n - (i + 1))) = some (i + 1) := fun i hi => by
    refine ⟨?_, hLw (i + 1) (by omega)⟩
    rw [show n - i = (n - (i + 1)) + 1 by omega, ptb_s]
  have hwn : ptb PF t (n - n) = t := by rw [Nat.sub_self]; rfl
  have key : ∃ o, f_Mo_steady_l41 (nI t) fu (nI (D (10 + D 7 0) 0)) M = some o ∧ (((∀ c k, gR o.2 c k = gR M c k) ∧ ∀ c k, c ≠ 126 → ¬ (c = 105 ∧ k = 59) → gI o.2 c k = gI M c k) ∧ gI o.2 105 59 = nI n ∧ ∀ i, i < n → gI o.2 126 i = nI (CB (ptb PF t (n - (i + 1))))) := by
    refine for_inv (fun z (q : Int32 × AM) => f_Mo_steady_l41 (nI t) z q.1 q.2) (fun i q => q.1 = nI (ptb PF t (n - i)) ∧ (∀ c k, gR q.2 c k = gR M c k) ∧ gI q.2 105 59 = nI i ∧ (∀ j, j < i → gI q.2 126 j = nI (CB (ptb PF t (n - (j + 1))))) ∧ ∀ c k, c ≠ 126 → ¬ (c = 105 ∧ k = 59) → gI q.2 c k = gI M c k) n _ (fun i q z hi hI => ?_) (fun q z hI => ?_) n 0 (nI (D (10 + D 7 0) 0), M) fu (by omega) (by rw [fu_eq]; omega) ⟨by rw [hw0], fun _ _ => rfl, h0, fun j hj => by omega, fun _ _ _ _ => rfl⟩
    · obtain ⟨v1, K⟩ := q
      obtain ⟨rfl, i1, i2, i3, i4⟩ := hI
      simp only at i1 i2 i3 i4
      left
      have hx := hLw i (by omega)
      have hx256 := (hl _ _ hx).1
      obtain ⟨⟨n1, n2, n3, n4⟩, n5⟩ := CAM.next hf hb hcam ht (fun i => ptb PF t (n - i)) hwn hww hi hx
      have hrest := CAM.rest hf hb hcam ht (fun i => ptb PF t (n - i)) hwn hww (n - i) i (by omega) hx
      generalize hcb : CB (ptb PF t (n - (i + 1))) = c0 at *
      generalize hw : ptb PF t (n - i) = w at *
      have hne : ¬ nI w = nI t := fun e => by
        have e2 := (nI_eq (by omega) (by omega)).mp e
        rw [e2, ht] at hx
        cases hx
        omega
      have n1' : c0 < D 0 1 := n1
      have hWK : MW D K := ⟨by rw [i4 _ _ (by decide) (by omega)]; exact hW.1, by rw [i4 _ _ (by decide) (by omega)]; exact hW.2.1, by rw [i4 _ _ (by decide) (by omega)]; exact hW.2.2.1, fun c hc => by rw [i4 _ _ (by decide) (by omega)]; exact hW.2.2.2.1 c hc, fun j hj => by rw [i4 _ _ (by decide) (by omega)]; exact hW.2.2.2.2 j hj⟩
      have hMK : ∀ v, v < 256 → gI K 127 v = fvI (B v) := fun v hv => by rw [i4 _ _ (by decide) (by omega)]; exact (hM v hv).1
      have hxc : ∀ c, c < D 0 1 → w ^^^ D 3 c < 256 := fun c hc => Nat.xor_lt_two_pow (n := 8) hx256 (by have := (h.1.2.2.2.2.2.2.2.1 c hc).1; omega)
      have hb48 : ∀ c z, c < D 0 1 → f_Mo_steady_l48 (nI t) (nI w) (z + 1) (nI c) K = if (D (10 + D 7 0) 1).testBit c = true then f_Mo_steady_l48 (nI t) (nI w) z (nI (c + 1)) K else if B (w ^^^ D 3 c) = some (n - i - 1) then (if D 0 3 ≤ pc (w ^^^ D 3 c) then some (nI c, K) else f_Mo_steady_l48 (nI t) (nI w) z (nI (c + 1)) K) else f_Mo_steady_l48 (nI t) (nI w) z (nI (c + 1)) K := by
        intro c z hc
        have hxk := hxc c hc
        have l8 := pc_le (w ^^^ D 3 c)
        show f_Mo_steady_b48 (f_Mo_steady_l48 (nI t) (nI w) z) (nI t) (nI w) (nI c) K = _
        unfold f_Mo_steady_b48
        rw [isTied_mw h hWK (by omega), bnd_s, ald_nI (by omega) (by decide), ald_nI (by omega) (by decide), hWK.2.2.2.1 c hc, nx_xor, ald_nI hxk (by decide), hMK _ hxk, ald_nI hx256 (by decide), hMK _ hx256, hrest, members_ok (by omega), bnd_s, hWK.2.2.1, nI_1, show fvI (some (n - i)) - 1 = nI (n - i - 1) from nI_sub1 (by omega)]
        by_cases ht1 : (D (10 + D 7 0) 1).testBit c = true
        · rw [if_pos ht1, if_neg (by decide), if_pos ht1]
        · rw [if_neg ht1, if_pos rfl, if_neg ht1]
          by_cases e : B (w ^^^ D 3 c) = some (n - i - 1)
          · rw [if_pos ((fvI_eq (fun k hk => (hbl _ k hk).2) (by omega)).mpr e), if_pos e]
            by_cases e2 : D 0 3 ≤ pc (w ^^^ D 3 c)
            · rw [if_pos (nI_le e2 (by omega)), if_pos e2]
            · rw [if_neg (nI_ge (by omega) (by omega)), if_neg e2]
          · rw [if_neg (fun q => e ((fvI_eq (fun k hk => (hbl _ k hk).2) (by omega)).mp q)), if_neg e]
      have hBn : B (w ^^^ D 3 c0) = some (n - i - 1) := by
        have e3 : w ^^^ D 3 c0 = ptb PF t (n - (i + 1)) := n3
        rw [e3]
        have := CAM.rest hf hb hcam ht (fun i => ptb PF t (n - i)) hwn (fun i hi => hww i hi) (n - (i + 1)) (i + 1) (by omega) (hLw (i + 1) (by omega))
        rw [this, show n - (i + 1) = n - i - 1 by omega]
      have hfr0 : (D (10 + D 7 0) 1).testBit c0 = false := by
        have : (!(D (10 + D 7 0) 1).testBit c0) = true := n2
        simpa using this
      have hok0 : D 0 3 ≤ pc (w ^^^ D 3 c0) := by
        have e3 : w ^^^ D 3 c0 = ptb PF t (n - (i + 1)) := n3
        have : decide (D 0 3 ≤ pc (ptb PF t (n - (i + 1)))) = true := n4
        rw [decide_eq_true_iff] at this
        rw [e3]; exact this
      have h48 : f_Mo_steady_l48 (nI t) (nI w) fu (nI 0) K = some (nI c0, K) :=
        for_up (fun z (q : Int32 × AM) => f_Mo_steady_l48 (nI t) (nI w) z q.1 q.2) (fun c => (nI c, K)) c0 (nI c0, K)
          (fun c z hc => by
            show f_Mo_steady_l48 (nI t) (nI w) (z + 1) (nI c) K = f_Mo_steady_l48 (nI t) (nI w) z (nI (c + 1)) K
            rw [hb48 c z (by omega)]
            by_cases ht1 : (D (10 + D 7 0) 1).testBit c = true
            · rw [if_pos ht1]
            · rw [if_neg ht1]
              by_cases e : B (w ^^^ D 3 c) = some (n - i - 1)
              · rw [if_pos e]
                by_cases e2 : D 0 3 ≤ pc (w ^^^ D 3 c)
                · exact absurd e (n5 c hc (show (!(D (10 + D 7 0) 1).testBit c) = true by simpa using ht1) (show decide (D 0 3 ≤ pc (w ^^^ D 3 c)) = true by rw [decide_eq_true_iff]; exact e2))
                · rw [if_neg e2]
              · rw [if_neg e])
          (fun z => by
            show f_Mo_steady_l48 (nI t) (nI w) (z + 1) (nI c0) K = _
            rw [hb48 c0 z n1', if_neg (by rw [hfr0]; decide), if_pos hBn, if_pos hok0]) c0 0 fu (by omega) (by rw [fu_eq]; omega)
      refine ⟨(nI (ptb PF t (n - (i + 1))), sI (sI K 126 i (nI c0)) 105 59 (nI (i + 1))), ⟨rfl, i1, rfl, fun j hj => ?_, fun c k h1 h2 => ?_⟩, ?_⟩
      · show gI (sI _ _ _ _) 126 j = _
        rw [gI_sI, if_neg (by omega), gI_sI]
        by_cases e : j = i
        · rw [if_pos ⟨rfl, e⟩, e, hcb]
        · rw [if_neg (fun y => e y.2)]; exact i3 j (by omega)
      · show gI (sI _ _ _ _) c k = _
        rw [gI_sI, if_neg h2, gI_sI, if_neg (fun y => h1 y.1)]; exact i4 c k h1 h2
      · show f_Mo_steady_b41 (f_Mo_steady_l41 (nI t) z) (nI t) (nI w) K = _
        have g59 : gI (sI K 126 i (nI c0)) 105 59 = nI i := by rw [gI_sI, if_neg (by omega)]; exact i2
        have g121 : gI (sI (sI K 126 i (nI c0)) 105 59 (nI (i + 1))) 121 c0 = nI (D 3 c0) := by rw [gI_sI, if_neg (by omega), gI_sI, if_neg (by omega)]; exact hWK.2.2.2.1 c0 n1'
        unfold f_Mo_steady_b41
        rw [nI_0] at h48
        rw [if_neg hne, h48, bnd_s, i2, ast_nI (by omega) (by decide), wI_eq, g59, nI_1, ald_nI (by omega) (by decide), g121, nx_xor, show w ^^^ D 3 c0 = ptb PF t (n - (i + 1)) from n3]
    · obtain ⟨v1, K⟩ := q
      obtain ⟨rfl, i1, i2, i3, i4⟩ := hI
      simp only at i1 i2 i3 i4
      refine ⟨((), K), ?_, ⟨i1, i4⟩, i2, i3⟩
      show f_Mo_steady_b41 (f_Mo_steady_l41 (nI t) z) (nI t) (nI (ptb PF t (n - n))) K = _
      unfold f_Mo_steady_b41
      rw [hwn, if_pos rfl]
  obtain ⟨⟨u, M'⟩, k1, k2, k3, k4⟩ := key
  exact ⟨M', k1, k2, k3, k4⟩
theorem hasPicture_at {D : DT} {M1 : AM} {p j : Nat} (h8 : D 0 0 ≤ 8) (hg : gI M1 p 0 = nI (D 0 0)) (hj : j < 2 ^ D 0 0) : f_Plan_hasPicture p (nI j) M1 = some (1, M1) := by
  have := p2_le h8
  unfold f_Plan_hasPicture f_Plan_allPictures
  rw [if_neg (nI_pos (by omega)), hg, nx_one _ (by omega), bnd_s, if_neg (nI_ge hj (by omega))]
theorem hasPicture_ao {D : DT} {M1 : AM} {p : Nat} {x : Int32} (h8 : D 0 0 ≤ 8) (hg : gI M1 p 0 = nI (D 0 0)) (hx : x < 0 ∨ nI (2 ^ D 0 0) ≤ x) : f_Plan_hasPicture p x M1 = some (0, M1) := by
  unfold f_Plan_hasPicture f_Plan_allPictures
  by_cases h0 : x < 0
  · rw [if_pos h0]
  · rw [if_neg h0, hg, nx_one _ (by omega), bnd_s, if_pos (hx.resolve_left h0)]
theorem isPicture_at {D : DT} {M1 : AM} {j : Nat} (h8 : D 0 0 ≤ 8) (hg : gI M1 105 41 = nI (D 0 0)) (hj : j < 2 ^ D 0 0) : f_Mo_isPicture (nI j) M1 = some (1, M1) := by
  have := p2_le h8
  unfold f_Mo_isPicture
  rw [hg, nx_one _ (by omega), isIn_in hj (by omega)]; rfl
theorem isPicture_ao {D : DT} {M1 : AM} {x : Int32} (h8 : D 0 0 ≤ 8) (hg : gI M1 105 41 = nI (D 0 0)) (hx : x < 0 ∨ nI (2 ^ D 0 0) ≤ x) : f_Mo_isPicture x M1 = some (0, M1) := by
  have := p2_le h8
  unfold f_Mo_isPicture
  rw [hg, nx_one _ (by omega), isIn_out hx (by omega)]; rfl
theorem B_steady (a : Int32) : Both (f_C_steady a) (f_Mo_steady a) := by
  intro D M h
  have h8 := h.1.1
  have h256l := p2_le h.1.1
  have hor := h.2.2.1.or
  have hcell := h.cell
  have hpic := h.pic'
  have h70 := h.le40
  have hcw : CW D (gR M 0 3) (gR M 39 (D 7 0)) (sI M 92 7 0) := by
    obtain ⟨c1, c2, c3, c4, c5⟩ := h.cw
    refine ⟨?_, fun c hc => ?_, ?_, ?_, ?_⟩ <;> rw [gI_sI, if_neg (by omega)]
    · exact c1
    · exact c2 c hc
    · exact c3
    · exact c4
    · exact c5
  have g0 : gI (sI M 92 7 0) (gR M 0 3) 0 = nI (D 0 0) := by rw [gI_sI, if_neg (by omega)]; exact h.2.2.2.1.1.1
  have gcur : f_Acts_current (sI M 92 7 0) = some (gR M 39 (D 7 0), sI M 92 7 0) := by
    unfold f_Acts_current
    rw [gI_sI, if_neg (by omega), h.2.2.2.2.2.2.1.1, rald_nI (M := sI M 92 7 0) (by omega) (by decide) (kd_st h.cell)]
    rfl
  have hw1 : Wr WL M (sI M 92 7 0) := Wr.rfl'.sI lliW.1
  unfold f_C_steady f_Paths_clearRow f_Mo_steady
  simp only [wI_eq, bnd_s]
  have kp0 : kd0 (gR M 0 3) = 5 := pl_kd h
  have kp : kd0 (gR (sI M 92 7 0) 0 3) = 5 := kp0
  rw [ckK_eq kp]
  rcases in_cases a (2 ^ D 0 0) (by omega) with ⟨t, ht, rfl⟩ | ho
  · have hh : f_Plan_hasPicture (gR (sI M 92 7 0) 0 3) (nI t) (sI M 92 7 0) = some (1, sI M 92 7 0) := hasPicture_at h8 g0 ht
    rw [hh, bnd_s, if_neg (by decide), ckK_eq kp, gcur, bnd_s]
    obtain ⟨M1, L, R, ps, PF, CB, k1, k2, k3⟩ := spread_ok h hor hcell hcw
    obtain ⟨M2, q1, q2, q3, q4⟩ := layRow_ok k3 (show t < 256 by omega)
    have hw2 : Wr WL M M2 := hw1.trans ((Wr.ofSm k2).trans q2)
    have hw3 : Wr WL M (sI M2 105 59 0) := hw2.sI lliW.2.2.2
    have hmw : MW D (sI M2 105 59 0) := by
      obtain ⟨c1, c2, c3, c4, c5⟩ := h.mw
      refine ⟨?_, ?_, ?_, fun c hc => ?_, fun i hi => ?_⟩ <;> rw [hw3.2 _ _ (by unfold WL lLI scr; omega)]
      · exact c1
      · exact c2
      · exact c3
      · exact c4 c hc
      · exact c5 i hi
    obtain ⟨M3, B, H, f1, f2, f3, f4, f5, f6⟩ := layFar_ok h hmw ht
    have hw4 : Wr WL M M3 := hw3.trans (Wr.ofSm f2)
    have hmw3 := hmw.sm f2
    have h92 : gI M3 92 7 = gI M2 92 7 := by rw [f2.2 92 7 (by unfold scr; omega), gI_sI, if_neg (by omega)]
    have h98 : ∀ i, gI M3 98 i = gI M2 98 i := fun i => by rw [f2.2 98 i (by unfold scr; omega), gI_sI, if_neg (by omega)]
    have h59 : gI M3 105 59 = 0 := by rw [f2.2 105 59 (by unfold scr; omega), gI_sI, if_pos ⟨rfl, rfl⟩]
    have eLB := FB_eq k3.1 f3
    have hC : bnd (f_Paths_spread (gR (sI M 92 7 0) 0 3) (gR M 39 (D 7 0)) (sI M 92 7 0)) (fun r9 M10 => bnd (f_Paths_layRow (nI t) M10) (fun r11 M12 => some (r11, M12))) = some (lvI (L t), M2) := by
      have k1' : f_Paths_spread (gR (sI M 92 7 0) 0 3) (gR M 39 (D 7 0)) (sI M 92 7 0) = some ((), M1) := k1
      rw [k1', bnd_s, q1, bnd_s]
    have hnow : ∀ κ : Int32 → Option (Int32 × AM), ald 5 M3 123 0 κ = κ (nI (D (10 + D 7 0) 0)) := fun κ => by
      rw [show ald 5 M3 123 0 κ = κ (gI M3 123 0) from ald_nI (j := 0) (by decide) (by decide), hmw3.2.2.2.2 0 (by decide)]
    cases hL : L t with
    | none =>
      rw [hL] at eLB hC
      refine ⟨lvI none, M2, M3, rw1 D 9 (at1 (D 9) 3 0), hC, ?_, h.lie (by omega) hw4 (by rw [h92]; exact q3 hL) h59 (fun i hi => by omega)⟩
      rw [isPicture_at h8 hmw.1 ht, bnd_s, if_neg (by decide), f1, bnd_s, hnow, ald_nI hpic (by decide), (f4 _ hpic).1, ← eLB, if_pos (show fvI none = 1000000 from rfl)]
      rfl
    | some n =>
      rw [hL] at eLB hC
      have hn := (k3.2.2.2.2.2.1 t n hL).2
      obtain ⟨M4, e1, e2, e3, e4⟩ := Mo_steadyL h hmw3 ht k3.1 k3.2.1 k3.2.2.2.2.2.1 f3 f4 f6 hL h59
      have hw5 : Wr WL M3 M4 := ⟨e2.1, fun c k q => e2.2 c k (fun e => q (by rw [e]; exact lliW.2.2.1 k)) (fun e => q (by rw [e.1, e.2]; exact lliW.2.2.2))⟩
      refine ⟨lvI (some n), M2, M4, rw1 D 9 (at1 (D 9) 3 n), hC, ?_, ?_⟩
      · rw [isPicture_at h8 hmw.1 ht, bnd_s, if_neg (by decide), f1, bnd_s, hnow, ald_nI hpic (by decide), (f4 _ hpic).1, ← eLB, if_neg (fun q => by have := (nI_eq (b := 1000000) (by omega) (by decide)).mp q; omega), e1, bnd_s, e3]
        rfl
      · refine h.lie (by omega) (hw4.trans hw5) ?_ e3 (fun i hi => ?_)
        · rw [e2.2 92 7 (by decide) (by omega), h92]; exact (q4 n hL).1
        · rw [e2.2 98 i (by decide) (by omega), h98, e4 i hi]; exact (q4 n hL).2 i hi
  · have hh : f_Plan_hasPicture (gR (sI M 92 7 0) 0 3) a (sI M 92 7 0) = some (0, sI M 92 7 0) := hasPicture_ao h8 g0 ho
    rw [hh, bnd_s, if_pos rfl]
    refine ⟨-1, sI M 92 7 0, sI (sI M 92 7 0) 105 59 0, rw1 D 9 (at1 (D 9) 3 0), rfl, ?_, h.lie (by omega) (hw1.sI lliW.2.2.2) (by rw [gI_sI, if_neg (by omega)]; rfl) rfl (fun i hi => by omega)⟩
    have hg : gI (sI (sI M 92 7 0) 105 59 0) 105 41 = nI (D 0 0) := by rw [gI_sI, if_neg (by omega), gI_sI, if_neg (by omega)]; exact h.mw.1
    rw [isPicture_ao h8 hg ho, bnd_s, if_pos rfl]
