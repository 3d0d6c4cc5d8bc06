section DG
variable {D D' : DT} {M : AM}
theorem okS5.dg {j : Nat} (e0 : D' 0 = D 0) (ej : D' j = D j) (h : okS5 D j) : okS5 D' j := by
  unfold okS5 at h ⊢
  rw [e0, ej]; exact h
theorem okSt.dg (h : okSt D) (e0 : D' 0 = D 0) (e7 : D' 7 = D 7) (e8 : D' 8 = D 8) (es : ∀ j, j ≤ 40 → D' (10 + j) = D (10 + j)) (eb : ∀ b, b < 3 → D' (60 + b) = D (60 + b)) (n0 : D' 9 0 ≤ 1600) (n1 : D' 9 1 ≤ 30) (n2 : D' 9 2 ≤ 100000) (n3 : D' 9 3 ≤ 256) (t : ∀ i, i < D' 9 0 → D' 52 i < 256) (s : ∀ i, i < D' 9 1 → D' 53 i < D 0 0 ∧ D' 54 i ≤ 1 ∧ D' 55 i ≤ D' 9 2) : okSt D' := by
  obtain ⟨k1, k2, k3, k4, -⟩ := h
  refine ⟨by rw [e7]; exact k1, by rw [e7]; exact k2, fun j hj => ?_, fun b hb => ?_, n0, n1, n2, n3, t, by rw [e0]; exact s⟩
  · rw [e7] at hj
    exact (k3 j hj).dg e0 (es j (by omega))
  · rw [e8]
    exact ⟨(k4 b hb).1, fun q => ((k4 b hb).2 q).dg e0 (eb b hb)⟩
theorem CST.dg (h : CST D M) (e7 : D' 7 = D 7) (es : ∀ j, j ≤ 40 → D' (10 + j) = D (10 + j)) (hk : D 7 1 ≤ 40) : CST D' M := by
  obtain ⟨a1, a2, a3, a4, a5⟩ := h
  refine ⟨by rw [e7]; exact a1, by rw [e7]; exact a2, a3, a4, fun j i hj hi => ?_⟩
  rw [e7] at hj
  rw [es j (by omega)]; exact a5 j i hj hi
theorem MST.dg (h : MST D M) (e7 : D' 7 = D 7) (es : ∀ j, j ≤ 40 → D' (10 + j) = D (10 + j)) (hk : D 7 1 ≤ 40) (hd : D 7 0 ≤ D 7 1) : MST D' M := by
  obtain ⟨a1, a2, a3, a4, a5⟩ := h
  refine ⟨by rw [e7]; exact a1, by rw [e7]; exact a2, fun i hi => ?_, fun j i hj hi => ?_, fun j i h1 h2 hi => ?_⟩
  · rw [e7, es _ (by omega)]; exact a3 i hi
  · rw [e7] at hj
    rw [es j (by omega)]; exact a4 j i hj hi
  · rw [e7] at h1 h2
    rw [show 10 + j + 1 = 10 + (j + 1) by omega, es (j + 1) (by omega)]; exact a5 j i h1 h2 hi
theorem BXS.dg (h : BXS D M) (e8 : D' 8 = D 8) (eb : ∀ b, b < 3 → D' (60 + b) = D (60 + b)) : BXS D' M := by
  obtain ⟨a1, a2⟩ := h
  refine ⟨by rw [e8]; exact a1, fun b hb => ?_⟩
  rw [e8, eb b hb]; exact a2 b hb
theorem TPE.dg (h : TPE D M) (e : D' 9 0 = D 9 0) (e2 : D' 52 = D 52) : TPE D' M := by
  unfold TPE at h ⊢
  rw [e, e2]; exact h
theorem SGT.dg (h : SGT D M) (e1 : D' 9 1 = D 9 1) (e2 : D' 9 2 = D 9 2) (e3 : D' 53 = D 53) (e4 : D' 54 = D 54) (e5 : D' 55 = D 55) : SGT D' M := by
  unfold SGT at h ⊢
  rw [e1, e2, e3, e4, e5]; exact h
theorem LIE.dg (h : LIE D M) (e : D' 9 3 = D 9 3) : LIE D' M := by
  unfold LIE at h ⊢
  rw [e]; exact h
end DG
/-- a row with one number changed -/
def at1 (f : Nat → Nat) (i v : Nat) : Nat → Nat := fun j => if j = i then v else f j
theorem at1_s (f : Nat → Nat) (i v : Nat) : at1 f i v i = v := if_pos rfl
theorem at1_n {f : Nat → Nat} {i v j : Nat} (h : j ≠ i) : at1 f i v j = f j := if_neg h
section O2
variable {D : DT} {M : AM}
theorem Rel.parts (h : Rel D M) : okSt D ∧ CST D M ∧ MST D M ∧ BXS D M ∧ TPE D M ∧ SGT D M ∧ LIE D M := ⟨h.2.1, h.2.2.2.2.2.2⟩
/-- only the tape's numbers change -/
theorem Rel.tape {M' : AM} (h : Rel D M) (n : Nat) (f : Nat → Nat) (hn : n ≤ 1600) (hf : ∀ i, i < n → f i < 256) (hw : Wr (fun c k => (c = 1 ∧ k = 1) ∨ c = 2 ∨ c = 106 ∨ (c = 105 ∧ k = 1)) M M') (h1 : gI M' 1 1 = nI n) (h2 : gI M' 105 1 = nI n) (h3 : ∀ i, i < n → gI M' 106 i = nI (f i) ∧ gI M' 2 i = (nI (f i)).toInt8.toInt32) : Rel (rw1 (rw1 D 9 (at1 (D 9) 0 n)) 52 f) M' := by
  obtain ⟨ok, hC, hM, hB, hT, hS, hL⟩ := h.parts
  have e : ∀ a, a ≠ 9 → a ≠ 52 → rw1 (rw1 D 9 (at1 (D 9) 0 n)) 52 f a = D a := fun a x y => by rw [rw1_n y, rw1_n x]
  have e9 : rw1 (rw1 D 9 (at1 (D 9) 0 n)) 52 f 9 = at1 (D 9) 0 n := by rw [rw1_n (by decide), rw1_s]
  have e52 : rw1 (rw1 D 9 (at1 (D 9) 0 n)) 52 f 52 = f := rw1_s _ _ _
  have okk := ok
  obtain ⟨k1, k2, k3, k4, k5, k6, k7, k8, k9, k10⟩ := okk
  have g : ∀ (l : Nat → Nat → Prop), (∀ c k, l c k → ¬ ((c = 1 ∧ k = 1) ∨ c = 2 ∨ c = 106 ∨ (c = 105 ∧ k = 1))) → Kp l M M' := fun l hl c k q => hw.2 c k (hl c k q)
  refine h.upd _ hw (fun a ha => e a (by omega) (by omega)) ?_ (fun c k q => by unfold lPL; omega) (fun c k q => by unfold lMP; omega) ?_ ?_ ?_ ?_ ?_ ?_
  · refine ok.dg (e 0 (by decide) (by decide)) (e 7 (by decide) (by decide)) (e 8 (by decide) (by decide)) (fun j hj => e _ (by omega) (by omega)) (fun b hb => e _ (by omega) (by omega)) ?_ ?_ ?_ ?_ ?_ ?_
    · rw [e9, at1_s]; exact hn
    · rw [e9, at1_n (by decide)]; exact k6
    · rw [e9, at1_n (by decide)]; exact k7
    · rw [e9, at1_n (by decide)]; exact k8
    · rw [e9, at1_s, e52]; exact hf
    · rw [e9, at1_n (by decide), at1_n (by decide), e 53 (by decide) (by decide), e 54 (by decide) (by decide), e 55 (by decide) (by decide)]; exact k10
  · exact (hC.cg (g _ (fun c k q => by unfold lCS at q; omega)) (fun j => hw.1 39 j) k2).dg (e 7 (by decide) (by decide)) (fun j hj => e _ (by omega) (by omega)) k2
  · exact (hM.cg (g _ (fun c k q => by unfold lMS at q; omega))).dg (e 7 (by decide) (by decide)) (fun j hj => e _ (by omega) (by omega)) k2 k1
  · exact (hB.cg (g _ (fun c k q => by unfold lBX at q; omega)) (fun j => hw.1 82 j)).dg (e 8 (by decide) (by decide)) (fun b hb => e _ (by omega) (by omega))
  · refine ⟨?_, ?_, ?_, ?_, ?_⟩
    · rw [e9, at1_s]; exact h1
    · rw [e9, at1_s]; exact h2
    · rw [e9, at1_s, e52]; exact h3
    · rw [hw.2 0 13 (by omega), hw.2 105 2 (by omega)]; exact hT.2.2.2.1
    · rw [hw.2 0 14 (by omega), hw.2 105 3 (by omega)]; exact hT.2.2.2.2
  · exact (hS.cg (g _ (fun c k q => by unfold lSG at q; omega))).dg (by rw [e9, at1_n (by decide)]) (by rw [e9, at1_n (by decide)]) (e 53 (by decide) (by decide)) (e 54 (by decide) (by decide)) (e 55 (by decide) (by decide))
  · exact (hL.cg (g _ (fun c k q => by unfold lLI at q; omega))).dg (by rw [e9, at1_n (by decide)])
/-- only what is seen changes -/
theorem Rel.sight {M' : AM} (h : Rel D M) (n t : Nat) (f3 f4 f5 : Nat → Nat) (hn : n ≤ 30) (ht : t ≤ 100000) (hf : ∀ i, i < n → f3 i < D 0 0 ∧ f4 i ≤ 1 ∧ f5 i ≤ t) (hw : Wr lSG M M') (h1 : gI M' 99 6 = nI n ∧ gI M' 105 67 = nI n ∧ gI M' 99 7 = nI t ∧ gI M' 105 68 = nI t) (h3 : ∀ i, i < n → gI M' 100 i = nI (f3 i) ∧ gI M' 132 i = nI (f3 i) ∧ gI M' 101 i = nI (f4 i) ∧ gI M' 135 i = nI (f4 i) ∧ gI M' 102 i = nI (f5 i) ∧ gI M' 133 i = nI (f5 i) ∧ gI M' 103 i = gI M' 134 i) : ∃ D', Rel D' M' := by
  obtain ⟨ok, hC, hM, hB, hT, hS, hL⟩ := h.parts
  generalize hE : rw1 (rw1 (rw1 (rw1 D 9 (at1 (at1 (D 9) 1 n) 2 t)) 53 f3) 54 f4) 55 f5 = E
  have e : ∀ a, a ≠ 9 → a ≠ 53 → a ≠ 54 → a ≠ 55 → E a = D a := fun a x y z w => by rw [← hE, rw1_n w, rw1_n z, rw1_n y, rw1_n x]
  have e9 : E 9 = at1 (at1 (D 9) 1 n) 2 t := by rw [← hE, rw1_n (by decide), rw1_n (by decide), rw1_n (by decide), rw1_s]
  have e3 : E 53 = f3 := by rw [← hE, rw1_n (by decide), rw1_n (by decide), rw1_s]
  have e4 : E 54 = f4 := by rw [← hE, rw1_n (by decide), rw1_s]
  have e5 : E 55 = f5 := by rw [← hE, rw1_s]
  have q0 : E 9 0 = D 9 0 := by rw [e9, at1_n (by decide), at1_n (by decide)]
  have q1 : E 9 1 = n := by rw [e9, at1_n (by decide), at1_s]
  have q2 : E 9 2 = t := by rw [e9, at1_s]
  have q3 : E 9 3 = D 9 3 := by rw [e9, at1_n (by decide), at1_n (by decide)]
  obtain ⟨k1, k2, k3, k4, k5, k6, k7, k8, k9, k10⟩ := id ok
  have g : ∀ (l : Nat → Nat → Prop), (∀ c k, l c k → ¬ lSG c k) → Kp l M M' := fun l hl c k q => hw.2 c k (hl c k q)
  refine ⟨E, h.upd _ hw (fun a ha => e a (by omega) (by omega) (by omega) (by omega)) ?_ (fun c k q => by unfold lSG at q; unfold lPL; omega) (fun c k q => by unfold lSG at q; unfold lMP; omega) ?_ ?_ ?_ ?_ ?_ ?_⟩
  · refine ok.dg (e 0 (by decide) (by decide) (by decide) (by decide)) (e 7 (by decide) (by decide) (by decide) (by decide)) (e 8 (by decide) (by decide) (by decide) (by decide)) (fun j hj => e _ (by omega) (by omega) (by omega) (by omega)) (fun b hb => e _ (by omega) (by omega) (by omega) (by omega)) ?_ ?_ ?_ ?_ ?_ ?_
    · rw [q0]; exact k5
    · rw [q1]; exact hn
    · rw [q2]; exact ht
    · rw [q3]; exact k8
    · rw [q0, e 52 (by decide) (by decide) (by decide) (by decide)]; exact k9
    · rw [q1, q2, e3, e4, e5]; exact hf
  · exact (hC.cg (g _ (fun c k q => by unfold lCS at q; unfold lSG; omega)) (fun j => hw.1 39 j) k2).dg (e 7 (by decide) (by decide) (by decide) (by decide)) (fun j hj => e _ (by omega) (by omega) (by omega) (by omega)) k2
  · exact (hM.cg (g _ (fun c k q => by unfold lMS at q; unfold lSG; omega))).dg (e 7 (by decide) (by decide) (by decide) (by decide)) (fun j hj => e _ (by omega) (by omega) (by omega) (by omega)) k2 k1
  · exact (hB.cg (g _ (fun c k q => by unfold lBX at q; unfold lSG; omega)) (fun j => hw.1 82 j)).dg (e 8 (by decide) (by decide) (by decide) (by decide)) (fun b hb => e _ (by omega) (by omega) (by omega) (by omega))
  · exact (hT.cg (g _ (fun c k q => by unfold lTP at q; unfold lSG; omega))).dg q0 (e 52 (by decide) (by decide) (by decide) (by decide))
  · unfold SGT
    rw [q1, q2, e3, e4, e5]
    exact ⟨h1.1, h1.2.1, h1.2.2.1, h1.2.2.2, h3⟩
  · exact (hL.cg (g _ (fun c k q => by unfold lLI at q; unfold lSG; omega))).dg q3
end O2
theorem B_end (a : Int32) : Both (f_C_end a) (f_Mo_end a) := by
  intro D M h
  obtain ⟨ok, hC, hM, hB, hT, hS, hL⟩ := h.parts
  have hn : D 9 0 ≤ 1600 := ok.2.2.2.2.1
  unfold f_C_end f_Mo_end
  rcases in_cases a (D 9 0 + 1) (by omega) with ⟨j, hj, rfl⟩ | ho
  · refine ⟨nI j, sI M 1 1 (nI j), sI (sI M 1 1 (nI j)) 105 1 (nI j), _, ?_, ?_, h.tape j (D 52) (by omega) (fun i hi => ok.2.2.2.2.2.2.2.2.1 i (by omega)) ((Wr.rfl'.sI (by omega)).sI (by omega)) rfl rfl (fun i hi => hT.2.2.1 i (by omega))⟩
    · rw [if_neg (nI_pos (by omega)), hT.1, if_pos (nI_le (by omega) (by omega))]; rfl
    · rw [if_neg (nI_pos (by omega)), show gI (sI M 1 1 (nI j)) 105 1 = nI (D 9 0) from hT.2.1, if_pos (nI_le (by omega) (by omega))]; rfl
  · refine ⟨-1, M, M, D, ?_, ?_, h⟩
    · by_cases h0 : a < 0
      · rw [if_pos h0]
      · rw [if_neg h0, hT.1, if_neg]
        have h1 := ho.resolve_left h0
        rw [Int32.le_iff_toInt_le, nI_toInt (by omega)] at h1 ⊢
        omega
    · by_cases h0 : a < 0
      · rw [if_pos h0]
      · rw [if_neg h0, hT.2.1, if_neg]
        have h1 := ho.resolve_left h0
        rw [Int32.le_iff_toInt_le, nI_toInt (by omega)] at h1 ⊢
        omega
theorem B_later (a : Int32) : Both (f_C_later a) (f_Mo_later a) := by
  intro D M h
  obtain ⟨ok, hC, hM, hB, hT, hS, hL⟩ := h.parts
  obtain ⟨s1, s2, s3, s4, s5⟩ := hS
  have hn : D 9 2 ≤ 100000 := ok.2.2.2.2.2.2.1
  unfold f_C_later f_Mo_later f_Sight_goOn
  rw [s3]
  rcases in_cases a 1001 (by decide) with ⟨j, hj, rfl⟩ | ho
  · have n0 : ¬ nI j < 0 := nI_pos (by omega)
    have n1 : ¬ (1000 : Int32) < nI j := nI_nlt (a := 1000) (by omega) (by omega)
    by_cases hs : D 9 2 + j ≤ 100000
    · have hw : Wr lSG M (sI (sI M 99 7 (nI (D 9 2 + j))) 105 68 (nI (D 9 2 + j))) := (Wr.rfl'.sI (by unfold lSG; omega)).sI (by unfold lSG; omega)
      obtain ⟨D', hR⟩ := h.sight (D 9 1) (D 9 2 + j) (D 53) (D 54) (D 55) ok.2.2.2.2.2.1 hs (fun i hi => by have := ok.2.2.2.2.2.2.2.2.2 i hi; omega) hw ⟨s1, s2, rfl, rfl⟩ s5
      refine ⟨nI (D 9 2 + j), sI M 99 7 (nI (D 9 2 + j)), _, D', ?_, ?_, hR⟩
      · rw [if_neg n0, if_neg n1, nI_add, nI_lit 100000, if_pos (nI_le hs (by decide))]; rfl
      · rw [if_neg n0, if_neg n1, show gI (sI M 99 7 (nI (D 9 2 + j))) 105 68 = nI (D 9 2) from s4, nI_add, nI_lit 100000, if_pos (nI_le hs (by decide))]; rfl
    · refine ⟨-1, M, M, D, ?_, ?_, h⟩
      · rw [if_neg n0, if_neg n1, nI_add, nI_lit 100000, if_neg (nI_ge (by omega) (by omega))]; rfl
      · rw [if_neg n0, if_neg n1, s4, nI_add, nI_lit 100000, if_neg (nI_ge (by omega) (by omega))]
  · refine ⟨-1, M, M, D, ?_, ?_, h⟩
    · by_cases h0 : a < 0
      · rw [if_pos h0]; rfl
      · rw [if_neg h0, if_pos]
        · rfl
        · have h1 := ho.resolve_left h0
          rw [Int32.le_iff_toInt_le, nI_toInt (by omega)] at h1
          rw [Int32.lt_iff_toInt_lt]
          have e2 : (1000 : Int32).toInt = 1000 := by decide
          omega
    · by_cases h0 : a < 0
      · rw [if_pos h0]
      · rw [if_neg h0, if_pos]
        have h1 := ho.resolve_left h0
        rw [Int32.le_iff_toInt_le, nI_toInt (by omega)] at h1
        rw [Int32.lt_iff_toInt_lt]
        have e2 : (1000 : Int32).toInt = 1000 := by decide
        omega
theorem B_untell (a : Int32) : Both (f_C_untell a) (f_Mo_untell a) := by
  intro D M h
  obtain ⟨ok, hC, hM, hB, hT, hS, hL⟩ := h.parts
  obtain ⟨s1, s2, s3, s4, s5⟩ := hS
  have hn : D 9 1 ≤ 30 := ok.2.2.2.2.2.1
  unfold f_C_untell f_Mo_untell f_Sight_takeOut
  rw [s1]
  rcases in_cases a (D 9 1) (by omega) with ⟨j, hj, rfl⟩ | ho
  · rw [if_neg (nI_pos (by omega)), if_neg (nI_ge hj (by omega)), ald_nI (by omega) (by decide)]
    by_cases hu : gI M 103 j < 0
    · have hw : Wr lSG M (sI (sI M 103 j (gI M 99 7)) 134 j (gI M 105 68)) := (Wr.rfl'.sI (by unfold lSG; omega)).sI (by unfold lSG; omega)
      have key : ∀ i, i < D 9 1 → gI (sI (sI M 103 j (gI M 99 7)) 134 j (gI M 105 68)) 103 i = gI (sI (sI M 103 j (gI M 99 7)) 134 j (gI M 105 68)) 134 i := fun i hi => by
        simp only [gI_sI]
        by_cases hij : i = j
        · simp [hij, s3, s4]
        · simp [hij, (s5 i hi).2.2.2.2.2.2]
      obtain ⟨D', hR⟩ := h.sight (D 9 1) (D 9 2) (D 53) (D 54) (D 55) hn ok.2.2.2.2.2.2.1 ok.2.2.2.2.2.2.2.2.2 hw ⟨s1, s2, s3, s4⟩ (fun i hi => ⟨(s5 i hi).1, (s5 i hi).2.1, (s5 i hi).2.2.1, (s5 i hi).2.2.2.1, (s5 i hi).2.2.2.2.1, (s5 i hi).2.2.2.2.2.1, key i hi⟩)
      refine ⟨1, sI M 103 j (gI M 99 7), _, D', by rw [if_pos hu, ast_nI (by omega) (by decide)]; rfl, ?_, hR⟩
      rw [show gI (sI M 103 j (gI M 99 7)) 105 67 = nI (D 9 1) from s2, isIn_in hj (by omega), bnd_s, if_neg (by decide), ald_nI (by omega) (by decide), show gI (sI M 103 j (gI M 99 7)) 134 j = gI M 103 j from (s5 j hj).2.2.2.2.2.2.symm, if_pos hu, ast_nI (by omega) (by decide)]
      rfl
    · refine ⟨0, M, M, D, by rw [if_neg hu]; rfl, ?_, h⟩
      rw [s2, isIn_in hj (by omega), bnd_s, if_neg (by decide), ald_nI (by omega) (by decide), ← (s5 j hj).2.2.2.2.2.2, if_neg hu]
  · refine ⟨0, M, M, D, ?_, ?_, h⟩
    · by_cases h0 : a < 0
      · rw [if_pos h0]; rfl
      · rw [if_neg h0, if_pos (ho.resolve_left h0)]; rfl
    · rw [s2, isIn_out ho (by omega), bnd_s, if_pos rfl]
theorem B_seen (a b : Int32) (hb : b = 0 ∨ b = 1) : Both (f_C_seen a b) (f_Mo_seen a b) := by
  intro D M h
  obtain ⟨ok, hC, hM, hB, hT, hS, hL⟩ := h.parts
  obtain ⟨s1, s2, s3, s4, s5⟩ := hS
  have hn : D 9 1 ≤ 30 := ok.2.2.2.2.2.1
  unfold f_C_seen f_Mo_seen
  rw [ckK_eq (pl_kd h)]
  rcases in_cases a (D 0 0) (by have := nlt h; omega) with ⟨j, hj, rfl⟩ | ho
  · have hnl := h.1.1
    rw [hasLamp_in h hj, bnd_s, if_neg (by decide)]
    unfold f_Sight_tell
    rw [s1]
    by_cases hlt : D 9 1 < 30
    · obtain ⟨bn, hbn, rfl⟩ : ∃ bn, bn ≤ 1 ∧ b = nI bn := by
        rcases hb with rfl | rfl
        · exact ⟨0, by omega, rfl⟩
        · exact ⟨1, by omega, rfl⟩
      generalize hn' : D 9 1 = n at *
      generalize hM1 : sI (sI (sI (sI (sI M 100 n (nI j)) 101 n (nI bn)) 102 n (nI (D 9 2))) 103 n (-1)) 99 6 (nI (n + 1)) = M1
      have hCs : (if nI n < 30 then ast 30 M 100 (nI n) (nI j) (fun M1 => ckB (nI bn) (ast 30 M1 101 (gI M1 99 6) (nI bn) (fun M2 => ast 30 M2 102 (gI M2 99 6) (gI M2 99 7) (fun M4 => ast 30 M4 103 (gI M4 99 6) (-1) (fun M5 => wI M5 99 6 ((gI M5 99 6) + 1) (fun M6 => some ((gI M6 99 6) - 1, M6))))))) else some ((-1), M)) = some (nI n, M1) := by
        have g1 : ∀ v, gI (sI M 100 n v) 99 6 = nI n := fun v => s1
        rw [nI_lit 30, if_pos (nI_lt hlt (by decide)), ast_nI hlt (by decide), ckB_eq hb]
        rw [show gI (sI M 100 n (nI j)) 99 6 = nI n from s1, ast_nI hlt (by decide)]
        rw [show gI (sI (sI M 100 n (nI j)) 101 n (nI bn)) 99 6 = nI n from s1, ast_nI hlt (by decide)]
        rw [show gI (sI (sI M 100 n (nI j)) 101 n (nI bn)) 99 7 = nI (D 9 2) from s3]
        rw [show gI (sI (sI (sI M 100 n (nI j)) 101 n (nI bn)) 102 n (nI (D 9 2))) 99 6 = nI n from s1, ast_nI hlt (by decide), wI_eq]
        rw [show gI (sI (sI (sI (sI M 100 n (nI j)) 101 n (nI bn)) 102 n (nI (D 9 2))) 103 n (-1)) 99 6 = nI n from s1, nI_1, hM1, ← hM1, gI_sI, if_pos ⟨rfl, rfl⟩, nI_lit 1, pk_sub (by omega)]
        rfl
      have g2 : gI M1 105 67 = nI n := by rw [← hM1]; exact s2
      have g3 : gI M1 105 68 = nI (D 9 2) := by rw [← hM1]; exact s4
      have gl : gI M1 105 41 = nI (D 0 0) := by rw [← hM1]; exact h.2.2.2.2.2.1.1.1
      generalize hM2 : sI (sI (sI (sI (sI M1 132 n (nI j)) 135 n (nI bn)) 133 n (nI (D 9 2))) 134 n (-1)) 105 67 (nI (n + 1)) = M2
      have hMs : bnd (f_Mo_isLamp (nI j) M1) (fun r1 M2 => if r1 = 0 then some ((-1), M2) else if (gI M2 105 67) = 30 then some ((-1), M2) else ast 30 M2 132 (gI M2 105 67) (nI j) (fun M3 => ckB (nI bn) (ast 30 M3 135 (gI M3 105 67) (nI bn) (fun M4 => ast 30 M4 133 (gI M4 105 67) (gI M4 105 68) (fun M6 => ast 30 M6 134 (gI M6 105 67) (-1) (fun M7 => wI M7 105 67 ((gI M7 105 67) + 1) (fun M8 => some ((gI M8 105 67) - 1, M8)))))))) = some (nI n, M2) := by
        unfold f_Mo_isLamp
        rw [gl, isIn_in hj (by omega), bnd_s, bnd_s, if_neg (by decide), g2, nI_lit 30, if_neg (fun e => by have := (nI_eq (by omega) (by decide)).mp e; omega), ast_nI hlt (by decide), ckB_eq hb]
        rw [show gI (sI M1 132 n (nI j)) 105 67 = nI n from g2, ast_nI hlt (by decide)]
        rw [show gI (sI (sI M1 132 n (nI j)) 135 n (nI bn)) 105 67 = nI n from g2, ast_nI hlt (by decide)]
        rw [show gI (sI (sI M1 132 n (nI j)) 135 n (nI bn)) 105 68 = nI (D 9 2) from g3]
        rw [show gI (sI (sI (sI M1 132 n (nI j)) 135 n (nI bn)) 133 n (nI (D 9 2))) 105 67 = nI n from g2, ast_nI hlt (by decide), wI_eq]
        rw [show gI (sI (sI (sI (sI M1 132 n (nI j)) 135 n (nI bn)) 133 n (nI (D 9 2))) 134 n (-1)) 105 67 = nI n from g2, nI_1, hM2, ← hM2, gI_sI, if_pos ⟨rfl, rfl⟩, nI_lit 1, pk_sub (by omega)]
        rfl
      have hw : Wr lSG M M2 := by
        rw [← hM2, ← hM1]
        exact ((((((((((Wr.rfl'.sI (by unfold lSG; omega)).sI (by unfold lSG; omega)).sI (by unfold lSG; omega)).sI (by unfold lSG; omega)).sI (by unfold lSG; omega)).sI (by unfold lSG; omega)).sI (by unfold lSG; omega)).sI (by unfold lSG; omega)).sI (by unfold lSG; omega)).sI (by unfold lSG; omega))
      obtain ⟨D', hR⟩ := h.sight (n + 1) (D 9 2) (at1 (D 53) n j) (at1 (D 54) n bn) (at1 (D 55) n (D 9 2)) (by omega) ok.2.2.2.2.2.2.1 (fun i hi => by
          by_cases hin : i = n
          · subst hin; rw [at1_s, at1_s, at1_s]; omega
          · rw [at1_n hin, at1_n hin, at1_n hin]
            exact ok.2.2.2.2.2.2.2.2.2 i (by omega)) hw
        ⟨by rw [← hM2, ← hM1]; rfl, by rw [← hM2]; rfl, by rw [← hM2, ← hM1]; exact s3, by rw [← hM2, ← hM1]; exact s4⟩
        (fun i hi => by
          rw [← hM2, ← hM1]
          simp only [gI_sI]
          by_cases hin : i = n
          · subst hin; simp [at1_s]
          · rw [at1_n hin, at1_n hin, at1_n hin]
            have := s5 i (by omega)
            simp [hin, this])
      exact ⟨nI n, M1, M2, D', by rw [hCs]; rfl, hMs, hR⟩
    · have h30 : D 9 1 = 30 := by omega
      refine ⟨-1, M, M, D, by rw [nI_lit 30, if_neg (nI_nlt (by omega) (by omega))]; rfl, ?_, h⟩
      rw [isLamp_in h hj, bnd_s, if_neg (by decide), s2, h30, if_pos (by decide)]
  · rw [hasLamp_out h ho]
    exact ⟨-1, M, M, D, rfl, by rw [isLamp_out h ho]; rfl, h⟩
