/-! units of the dusk: the reference -/
section UY
variable {B : Nat → Nat} {z : Nat} {N : AM} {E : DT} {i : Nat} {S : List Nat}
theorem PM.unt (h : PM E N) : PM (untE E) (sI N 105 20 (nI (E 0 5 + 1))) := by
  obtain ⟨⟨a1, a2, a3, a4, a5, a6, a7, a8, a9, a10, a11, a12, a13⟩, b, d, e⟩ := h
  have g : ∀ c j, ¬ (c = 105 ∧ j = 20) → gI (sI N 105 20 (nI (E 0 5 + 1))) c j = gI N c j := fun c j q => by rw [gI_sI, if_neg q]
  exact ⟨⟨⟨by rw [g _ _ (by omega)]; exact a1.1, by rw [g _ _ (by omega)]; exact a1.2⟩, by rw [g _ _ (by omega)]; exact a2, by rw [g _ _ (by omega)]; exact a3, by rw [g _ _ (by omega)]; exact a4, by rw [g _ _ (by omega)]; exact a5, by rw [g _ _ (by omega)]; exact a6, by rw [g _ _ (by omega)]; exact a7, by rw [gI_sI, if_pos ⟨rfl, rfl⟩]; rfl, fun q => by rw [g _ _ (by omega)]; exact a9 q, by rw [g _ _ (by omega)]; exact a10, by rw [g _ _ (by omega)]; exact a11, by rw [g _ _ (by omega)]; exact a12, by rw [g _ _ (by omega)]; exact a13⟩, fun l hl => by rw [g 115 l (by omega), g 116 l (by omega)]; exact b l hl, fun c hc => by rw [g 117 c (by omega), g 118 c (by omega)]; exact d c hc, fun j hj => by rw [g 108 j (by omega), g 109 j (by omega)]; exact e j hj⟩
theorem countUnit_ok (h : YS B z N i S E) : ∃ K, f_Mo_countUnit N = some ((), K) ∧ YS B z K i S (untE E) ∧ FR N K ∧ (∀ c k, ¬ (c = 105 ∧ (k = 20 ∨ k = 22)) → gI K c k = gI N c k) := by
  obtain ⟨⟨t1, t2, t3⟩, f1, f2, f3, f5, f6⟩ := h
  have g : ∀ c k, ¬ (c = 105 ∧ (k = 20 ∨ k = 22)) → gI (sI (sI N 105 20 (nI (E 0 5 + 1))) 105 22 (nI (E 0 5 + 1))) c k = gI N c k := fun c k q => by
    rw [gI_sI, if_neg (by omega), gI_sI, if_neg (by omega)]
  have fr : FR N (sI (sI N 105 20 (nI (E 0 5 + 1))) 105 22 (nI (E 0 5 + 1))) := (FR.rfl'.sI (by unfold wM; omega)).sI (by unfold wM; omega)
  refine ⟨_, ?_, ⟨⟨t1.kp (fun j hj => g _ _ (by omega)) rfl, t2.fr fr, (t3.unt).yd (Or.inr (Or.inl rfl))⟩, by rw [g _ _ (by omega)]; exact f1, by rw [g _ _ (by omega)]; exact f2, by rw [gI_sI, if_pos ⟨rfl, rfl⟩]; rfl, f5.kp (fun k hk => g _ _ (by omega)), f6⟩, fr, g⟩
  unfold f_Mo_countUnit
  have e22 : gI (sI N 105 20 (nI (E 0 5 + 1))) 105 22 = nI (E 0 5) := by rw [gI_sI, if_neg (by omega)]; exact f3
  rw [wI_eq, t3.1.2.2.2.2.2.2.2.1, nI_1, wI_eq, e22, nI_1]
theorem YS.push {o : Nat} {K : AM} (h : YS B z N i S E) (ho : o < 300) : YS B z (sI (sI N 112 S.length (nI o)) 105 19 (nI (S.length + 1))) i (o :: S) E := by
  obtain ⟨⟨t1, t2, t3⟩, f1, f2, f3, f5, f6⟩ := h
  have g : ∀ c k, ¬ (c = 112 ∧ k = S.length) → ¬ (c = 105 ∧ k = 19) → gI (sI (sI N 112 S.length (nI o)) 105 19 (nI (S.length + 1))) c k = gI N c k := fun c k q q2 => by
    rw [gI_sI, if_neg q2, gI_sI, if_neg q]
  have hP : PM E (sI N 112 S.length (nI o)) := by
    obtain ⟨⟨a1, a2, a3, a4, a5, a6, a7, a8, a9, a10, a11, a12, a13⟩, b, d, e⟩ := t3
    have g : ∀ c j, ¬ c = 112 → gI (sI N 112 S.length (nI o)) c j = gI N c j := fun c j q => by rw [gI_sI, if_neg (fun x => q x.1)]
    exact ⟨⟨⟨by rw [g _ _ (by omega)]; exact a1.1, by rw [g _ _ (by omega)]; exact a1.2⟩, by rw [g _ _ (by omega)]; exact a2, by rw [g _ _ (by omega)]; exact a3, by rw [g _ _ (by omega)]; exact a4, by rw [g _ _ (by omega)]; exact a5, by rw [g _ _ (by omega)]; exact a6, by rw [g _ _ (by omega)]; exact a7, by rw [g _ _ (by omega)]; exact a8, fun q => by rw [g _ _ (by omega)]; exact a9 q, by rw [g _ _ (by omega)]; exact a10, by rw [g _ _ (by omega)]; exact a11, by rw [g _ _ (by omega)]; exact a12, by rw [g _ _ (by omega)]; exact a13⟩, fun l hl => by rw [g 115 l (by omega), g 116 l (by omega)]; exact b l hl, fun c hc => by rw [g 117 c (by omega), g 118 c (by omega)]; exact d c hc, fun j hj => by rw [g 108 j (by omega), g 109 j (by omega)]; exact e j hj⟩
  refine ⟨⟨t1.kp (fun j hj => g _ _ (by omega) (by omega)) rfl, t2.fr ((FR.rfl'.sI (by unfold wM; omega)).sI (by unfold wM; omega)), hP.yd (Or.inl rfl)⟩, by rw [g _ _ (by omega) (by omega)]; exact f1, by rw [gI_sI, if_pos ⟨rfl, rfl⟩]; rfl, by rw [g _ _ (by omega) (by omega)]; exact f3, ⟨?_, ho, f5.kp (fun k hk => g _ _ (by omega) (by omega))⟩, f6⟩
  rw [gI_sI, if_neg (by omega), gI_sI, if_pos ⟨rfl, rfl⟩]
theorem YS.fm {K : AM} {j : Nat} (h : YS B z N i S E) (hm : MS B z K j E) (hf : FM N K) : YS B z K j S E := by
  obtain ⟨t, f1, f2, f3, f5, f6⟩ := h
  exact ⟨hm, by rw [hf.2.1 105 17 (by omega)]; exact f1, by rw [hf.2.1 105 19 (by omega)]; exact f2, by rw [hf.2.1 105 22 (by omega)]; exact f3, f5.kp (fun k hk => hf.2.1 112 k (by omega)), f6⟩
theorem openUp_ok (hz : z ≤ 1600) (hB : ∀ i, i < z → B i < 256) {o : Nat} (h : YS B z N i S E) (h23 : gI N 105 23 = nI (dpt S)) (hl : S.length < 160) (ho : o = 20 ∨ o = 21) : ∃ K, f_Mo_openUp (nI o) N = some ((), K) ∧ YS B z K (i + 1) (o :: S) E ∧ gI K 105 23 = nI (dpt (o :: S)) ∧ FR N K := by
  have hp := (h.push (K := N) (o := o) (by omega)).w23 (v := nI (dpt S + 1))
  have e19 : gI (sI N 112 S.length (nI o)) 105 19 = nI S.length := by rw [gI_sI, if_neg (by omega)]; exact h.2.2.1
  have e23 : gI (sI (sI N 112 S.length (nI o)) 105 19 (nI (S.length + 1))) 105 23 = nI (dpt S) := by rw [gI_sI, if_neg (by omega), gI_sI, if_neg (by omega)]; exact h23
  obtain ⟨K, t1, t2, t3⟩ := mstep hz hB hp.1
  unfold f_Mo_openUp
  rw [h.2.2.1, ast_nI hl (by decide), wI_eq, e19, nI_1, wI_eq, e23, nI_1, hp.1.2.2.1.1.1, if_pos rfl, t1, bnd_s]
  refine ⟨K, rfl, hp.fm t2 t3, ?_, (((FR.rfl'.sI (by unfold wM; omega)).sI (by unfold wM; omega)).sI (by unfold wM; omega)).trans t3.fr⟩
  rw [t3.2.1 105 23 (by omega), gI_sI, if_pos ⟨rfl, rfl⟩]
  show nI (dpt S + 1) = nI (dpt S + (if o = 20 ∨ o = 21 then 1 else 0))
  rw [if_pos ho]
/-- behind a fault nothing more is read -/
theorem openUp_no {N0 : AM} {q : Nat × Nat} {v : Int32} {n : Nat} (h : MO B z N0 (.inr q) N) (h19 : gI N 105 19 = nI n) (hn : n < 160) : ∃ K, f_Mo_openUp v N = some ((), K) ∧ MO B z N0 (.inr q) K := by
  rcases h.cases with ⟨j, E', g1, -⟩ | ⟨q', g1, g2, g3, g4⟩
  · cases g1
  · unfold f_Mo_openUp
    have e19 : gI (sI N 112 n v) 105 19 = nI n := by rw [gI_sI, if_neg (by omega)]; exact h19
    rw [h19, ast_nI hn (by decide), wI_eq, e19, nI_1, wI_eq]
    have e2 : ∀ x y, gI (sI (sI (sI N 112 n v) 105 19 x) 105 23 y) 105 2 = gI N 105 2 := fun x y => by rw [gI_sI, if_neg (by omega), gI_sI, if_neg (by omega), gI_sI, if_neg (by omega)]
    have e3 : ∀ x y, gI (sI (sI (sI N 112 n v) 105 19 x) 105 23 y) 105 3 = gI N 105 3 := fun x y => by rw [gI_sI, if_neg (by omega), gI_sI, if_neg (by omega), gI_sI, if_neg (by omega)]
    rw [e2, if_neg g2]
    obtain ⟨a, b⟩ := q
    obtain ⟨y1, y2, y3, y4⟩ := h
    exact ⟨_, rfl, ((y1.sI (by unfold wM; omega)).sI (by unfold wM; omega)).sI (by unfold wM; omega), by rw [e2]; exact y2, by rw [e3]; exact y3, y4⟩
end UY
