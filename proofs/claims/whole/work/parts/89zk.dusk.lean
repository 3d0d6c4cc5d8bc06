/-! a line of the dusk: the reference -/
def NZ (r : RSL) : Prop := ∀ q, r = .inr q → 1 ≤ q.1
theorem NZ_flt {f : Nat → Nat} {i k : Nat} (hk : 1 ≤ k) : NZ (flt f i k) := fun q h => by
  have e : q = (if knd f i = 1 then 1 else k, plc f i) := (Sum.inr.inj h).symm
  rw [e]
  show 1 ≤ (if knd f i = 1 then 1 else k)
  split <;> omega
theorem NZ_inl {p : Nat × DT} : NZ (.inl p) := fun q h => by cases h
theorem NZ_rb {r : RSL} {k : Nat → DT → RSL} (h : NZ r) (h2 : ∀ j E, NZ (k j E)) : NZ (rb r k) := by
  cases r with
  | inl p => exact h2 p.1 p.2
  | inr q => exact fun q' e => h q' e
theorem NZ_sExp {f : Nat → Nat} {k i : Nat} {E : DT} : NZ (sExp f k i E) := by
  unfold sExp
  split
  · exact NZ_inl
  · exact NZ_flt (by decide)
theorem NZ_loop {f : Nat → Nat} {g : Nat → DT → RSL} {m : Nat} (hg : ∀ i E, NZ (g i E)) : ∀ c i E, NZ (loopR f g m c i E) := by
  intro c
  induction c with
  | zero => intro i E; exact NZ_inl
  | succ c ih =>
    intro i E
    rw [loopR_s]
    split
    · exact NZ_rb (hg _ _) (fun j E' => ih _ _)
    · exact NZ_inl
theorem NZ_rd {f : Nat → Nat} : ∀ n m w i E, NZ (rd f n m w i E) := by
  intro n
  induction n with
  | zero => intro m w i E; exact NZ_inl
  | succ n ih =>
    intro m w i E
    by_cases m2 : m = 2
    · subst m2
      rw [rd_one]
      split
      · split
        · exact NZ_rb (ih _ _ _ _) (fun _ _ => NZ_inl)
        · exact NZ_flt (by decide)
      · refine NZ_rb (ih _ _ _ _) (fun j E' => ?_)
        show NZ (if rel3 (knd f j) then _ else _)
        split
        · exact NZ_rb (ih _ _ _ _) (fun _ _ => NZ_inl)
        · exact NZ_inl
    · by_cases m5 : m = 5
      · subst m5
        rw [rd_unit]
        split
        · split
          · exact NZ_rb (ih _ _ _ _) (fun _ _ => NZ_sExp)
          · exact NZ_inl
        · exact NZ_flt (by decide)
      · rw [rd_join _ _ _ _ _ _ m2 m5]
        exact NZ_rb (ih _ _ _ _) (fun j E' => NZ_loop (fun i E => ih _ _ _ _) _ _ _)
theorem bnd_as {α β γ : Type} (x : Option (α × AM)) (k : α → AM → Option (β × AM)) (k2 : β → AM → Option γ) : bnd (bnd x k) k2 = bnd x (fun a M => bnd (k a M) k2) := by
  cases x with
  | none => rfl
  | some p => rfl
section DK
variable {B : Nat → Nat} {z : Nat}
theorem PM.beg {E : DT} {N : AM} (h : PM E N) (h6 : E 0 6 = 0) : PM (st E 72 3 1) (sI (sI N 105 24 1) 105 17 0) := by
  obtain ⟨⟨a1, a2, a3, a4, a5, a6, a7, a8, a9, a10, a11, a12, a13⟩, b, d, e⟩ := h
  have g : ∀ c j, ¬ (c = 105 ∧ j = 24) → ¬ (c = 105 ∧ j = 17) → gI (sI (sI N 105 24 1) 105 17 0) c j = gI N c j := fun c j q q2 => by rw [gI_sI, if_neg q2, gI_sI, if_neg q]
  have e6 : st E 72 3 1 0 6 = 0 := h6
  refine ⟨⟨⟨by rw [g _ _ (by omega) (by omega)]; exact a1.1, by rw [g _ _ (by omega) (by omega)]; exact a1.2⟩, by rw [g _ _ (by omega) (by omega)]; exact a2, by rw [g _ _ (by omega) (by omega)]; exact a3, by rw [g _ _ (by omega) (by omega)]; exact a4, by rw [g _ _ (by omega) (by omega)]; exact a5, by rw [g _ _ (by omega) (by omega)]; exact a6, by rw [g _ _ (by omega) (by omega)]; exact a7, by rw [g _ _ (by omega) (by omega)]; exact a8, fun q => by rw [gI_sI, if_pos ⟨rfl, rfl⟩, e6]; rfl, by rw [gI_sI, if_neg (by omega), gI_sI, if_pos ⟨rfl, rfl⟩]; rfl, by rw [g _ _ (by omega) (by omega)]; exact a11, by rw [g _ _ (by omega) (by omega)]; exact a12, by rw [g _ _ (by omega) (by omega)]; exact a13⟩, fun l hl => by rw [g 115 l (by omega) (by omega), g 116 l (by omega) (by omega)]; exact b l hl, fun c hc => by rw [g 117 c (by omega) (by omega), g 118 c (by omega) (by omega)]; exact d c hc, fun j hj => by rw [e6] at hj; omega⟩
theorem mdusk_ok (hz : z ≤ 1600) (hB : ∀ i, i < z → B i < 256) {i : Nat} {N : AM} {E : DT} (h : MS B z N i E) (hO : okN E) (hk : knd (byt B z) i = 131) (h3 : E 72 3 = 0) : ∃ K, bnd (f_Mo_formula N) (fun _ M => f_Mo_readLine_j216 M) = some ((), K) ∧ MO B z N (rb (sDusk (byt B z) i E) (fun j E' => sExp (byt B z) 59 j E')) K := by
  obtain ⟨e5, e6⟩ := hO.2.2.2.1 h3
  obtain ⟨K1, t1, t2, t3⟩ := mstep hz hB h
  have hi := kE hz hB (t := i) (by omega)
  obtain ⟨KK, q1, q2⟩ := sim_all hz hB (E0 := st E 72 3 1) (i := i + 1) (E := st E 72 3 1) (h := 0) hi (RI0 hO h3)
  have nE16 := (nE_ok hz hB).2.2
  have nz : ¬ MA (byt B z) KK true (i + 1) [] (st E 72 3 1) = .inr (0, 0) := fun q => by
    rw [q2] at q
    have := NZ_rb (NZ_rd 50 0 0 (i + 1) (st E 72 3 1)) (fun j E' => NZ_sExp (f := byt B z) (k := 59) (i := j) (E := E')) (0, 0) q
    exact absurd this (by decide)
  have es : sDusk (byt B z) i E = rd (byt B z) 50 0 0 (i + 1) (st E 72 3 1) := by unfold sDusk sOnc; rw [if_pos h3]
  rw [es, ← q2]
  have f1 : FR K1 (sI (sI (sI (sI (sI K1 105 24 1) 105 17 0) 105 19 0) 105 23 0) 105 22 0) := ((((FR.rfl'.sI (by unfold wM; omega)).sI (by unfold wM; omega)).sI (by unfold wM; omega)).sI (by unfold wM; omega)).sI (by unfold wM; omega)
  have hm : MS B z (sI (sI K1 105 24 1) 105 17 0) (i + 1) (st E 72 3 1) := ⟨t2.1.kp (fun a ha => by rw [gI_sI, if_neg (by omega), gI_sI, if_neg (by omega)]) rfl, t2.2.1.fr ((FR.rfl'.sI (by unfold wM; omega)).sI (by unfold wM; omega)), t2.2.2.beg e6⟩
  have x5 : st E 72 3 1 0 5 = 0 := e5
  have x6 : st E 72 3 1 0 6 = 0 := e6
  have hy : YS B z (sI (sI (sI (sI (sI K1 105 24 1) 105 17 0) 105 19 0) 105 23 0) 105 22 0) (i + 1) [] (st E 72 3 1) := ⟨((hm.yd (Or.inl rfl)).yd (Or.inr (Or.inr rfl))).yd (Or.inr (Or.inl rfl)), by rw [x6]; rfl, rfl, by rw [x5]; rfl, trivial, rfl⟩
  obtain ⟨M1, u1, u2⟩ := unit_run hz hB KK (i + 1) [] (st E 72 3 1) _ fu nz (by rw [fu_eq]; omega) hy rfl ⟨by omega, Nat.zero_le _, by show st E 72 3 1 0 6 + 0 ≤ _; omega, Nat.zero_le _⟩
  have u1' : f_Mo_unit (sI (sI (sI (sI (sI K1 105 24 1) 105 17 0) 105 19 0) 105 23 0) 105 22 0) = some ((), M1) := u1
  have hred : bnd (f_Mo_formula N) (fun _ M => f_Mo_readLine_j216 M) = bnd (f_Mo_formula_l35 fu 1 M1) (fun _ M11 => fendJ M11) := by
    unfold f_Mo_formula
    rw [t1, bnd_s]
    simp only [wI_eq]
    rw [u1', bnd_s, bnd_as]
    rfl
  rw [hred]
  rcases u2 with ⟨K', i', S', E', y1, y2, y3, y4, y5, y6⟩ | ⟨q, y1, y2⟩
  · rw [y2] at nz ⊢
    obtain ⟨M, z1, z2⟩ := main_run hz hB K' i' S' E' M1 fu nz (by rw [fu_eq]; omega) (by omega) y3 y4 y5
    exact ⟨M, z1, z2.from ((t3.fr.trans f1).trans y6)⟩
  · obtain ⟨y, hyy⟩ : ∃ x, fu = x + 1 := ⟨fu - 1, by rw [fu_eq]⟩
    rw [y1, hyy, f35_no y2 y, bnd_s]
    obtain ⟨M, z1, z2⟩ := fend_no hz hB y2
    exact ⟨M, z1, z2.from (t3.fr.trans f1)⟩
end DK
