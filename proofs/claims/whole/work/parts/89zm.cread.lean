/-! the class reads all that is told -/
def Z0 : DT := fun _ _ => 0
theorem okN_Z0 : okN Z0 :=
  ⟨⟨Nat.zero_le _, Nat.zero_le _, (show 0 < 2 ^ 0 by decide), Nat.zero_le _, Nat.zero_le _, Nat.zero_le _, Nat.zero_le _, Nat.zero_le _, Nat.zero_le _, Nat.zero_le _⟩, fun l hl => absurd hl (Nat.not_lt_zero l), fun c hc => absurd hc (Nat.not_lt_zero c), fun _ => ⟨rfl, rfl⟩, Nat.zero_le _, Nat.zero_le _, fun q => absurd rfl q, fun i hi => absurd hi (Nat.not_lt_zero i)⟩
def beg0 (p : Nat) (N : AM) : AM := sI (sI (sI (sI (sI (sI (sI (sI (sI (sI (sI (sR N 7 1 p) p 0 0) p 1 0) p 6 0) (p + 9) 1 0) (p + 9) 4 0) p 14 0) p 15 0) p 16 0) 7 2 0) 7 4 0) 7 5 (-1)
theorem beg0_o {p : Nat} {N : AM} {c k : Nat} (h : ¬ (c = p ∨ c = p + 9 ∨ c = 7)) : gI (beg0 p N) c k = gI N c k := by
  unfold beg0
  rw [gI_sI, if_neg (by omega), gI_sI, if_neg (by omega), gI_sI, if_neg (by omega), gI_sI, if_neg (by omega), gI_sI, if_neg (by omega), gI_sI, if_neg (by omega), gI_sI, if_neg (by omega), gI_sI, if_neg (by omega), gI_sI, if_neg (by omega), gI_sI, if_neg (by omega), gI_sI, if_neg (by omega), gI_sR]
theorem beg0_R {p : Nat} {N : AM} {c k : Nat} (h : ¬ (c = 7 ∧ k = 1)) : gR (beg0 p N) c k = gR N c k := if_neg h
theorem PC_Z0 {p : Nat} {N : AM} (hp : p = 8 ∨ p = 23) : PC Z0 p (beg0 p N) := by
  rcases hp with rfl | rfl
  · exact ⟨⟨⟨rfl, rfl, rfl⟩, rfl, rfl, rfl, rfl, rfl, rfl, rfl, rfl, rfl⟩, fun l hl => absurd hl (Nat.not_lt_zero l), fun c hc => absurd hc (Nat.not_lt_zero c), fun i hi => absurd hi (Nat.not_lt_zero i)⟩
  · exact ⟨⟨⟨rfl, rfl, rfl⟩, rfl, rfl, rfl, rfl, rfl, rfl, rfl, rfl, rfl⟩, fun l hl => absurd hl (Nat.not_lt_zero l), fun c hc => absurd hc (Nat.not_lt_zero c), fun i hi => absurd hi (Nat.not_lt_zero i)⟩
theorem PL_of {E : DT} {p : Nat} {N K : AM} (hp : p = 8 ∨ p = 23) (h : PC E p N) (hs : SI p (E 0 0) (E 3) N K (E 0 1)) : PL E K p := by
  obtain ⟨⟨a0, a1, a2, a3, a4, a5, a6, a7, a8, a9⟩, b, d, e⟩ := h
  obtain ⟨r, g, g13, g3, g8⟩ := hs
  refine ⟨⟨?_, ?_, ?_, ?_, ?_, ?_, ?_⟩, fun l hl => ⟨?_, ?_, g3 l hl⟩, fun c hc => ⟨?_, ?_⟩, g8, fun i hi => ?_⟩ <;> rw [g _ _ (by omega)]
  · exact a1
  · exact a2
  · exact a3
  · exact a4
  · exact a5
  · exact a7
  · exact a8
  · exact (b l hl).2.1
  · exact (b l hl).2.2.2
  · exact (d c hc).2.1
  · exact (d c hc).2.2
  · exact e i hi
section CR
variable {B : Nat → Nat} {z : Nat} {N : AM} {p : Nat}
theorem read_ok (hz : z ≤ 1600) (hB : ∀ i, i < z → B i < 256) (hp : p = 8 ∨ p = 23) (h : CT (byt B z) N 0) (h8 : gI N (p + 8) 0 = 0) : ∃ v K, f_Reader_read p N = some (v, K) ∧ (∀ c k, ¬ (c = 7 ∧ k = 1) → gR K c k = gR N c k) ∧ (∀ c k, ¬ (wC p c ∨ c = p + 8) → gI K c k = gI N c k) ∧ gI K (p + 8) 0 = 0 ∧ ((∃ j E, sAll (byt B z) 1601 0 Z0 = .inl (j, E) ∧ v = 1 ∧ okN E ∧ HD E ∧ gI K 7 4 = 0 ∧ gI K 7 5 = -1 ∧ PL E K p ∧ gI K p 16 = nI (E 73 0) ∧ (∀ k, k < 128 → gI K (p + 13) k = -1)) ∨ (∃ k pl, sAll (byt B z) 1601 0 Z0 = .inr (k, pl) ∧ v = 0 ∧ gI K 7 4 = nI k ∧ gI K 7 5 = nI pl)) := by
  have hc0 : CT (byt B z) (beg0 p N) 0 := h.keep (fun c k q => beg0_o (by omega)) (fun _ _ _ => rfl)
  obtain ⟨o, o1, o2⟩ := read_loop hz hB hp 1601 0 fu 0 (beg0 p N) Z0 (by omega) (by rw [fu_eq]; omega) hc0 (PC_Z0 hp) okN_Z0
  have run : f_Reader_read p N = bn2 (f_Reader_read_l29 fu 0 (beg0 p N)) (fun y8 M9 => ckK (gR M9 7 1) 5 (bnd (f_Plan_settle (gR M9 7 1) M9) (fun r11 M12 => some (1, M12)))) := by
    unfold f_Reader_read
    rw [wR_eq, show gR (sR N 7 1 p) 7 1 = p from rfl, ckK_eq (kd_p hp)]
    rfl
  have o1' : f_Reader_read_l29 fu 0 (beg0 p N) = some o := o1
  rw [run, o1']
  have fr : ∀ K, FC p (beg0 p N) K → (∀ c k, ¬ (c = 7 ∧ k = 1) → gR K c k = gR N c k) ∧ (∀ c k, ¬ (wC p c) → gI K c k = gI N c k) := fun K hK => ⟨fun c k q => (hK.1 c k).trans (beg0_R q), fun c k q => (hK.2 c k q).trans (beg0_o (fun e => q (by unfold wC; omega)))⟩
  have n8 : ¬ wC p (p + 8) := by unfold wC; omega
  cases hs : sAll (byt B z) 1601 0 Z0 with
  | inl q =>
    obtain ⟨j, E⟩ := q
    rw [hs] at o2
    cases o with
    | inr x => exact False.elim o2
    | inl x =>
      obtain ⟨u, K⟩ := x
      obtain ⟨f1, -, f3, f4⟩ := o2
      obtain ⟨r1, r2⟩ := fr K f1
      obtain ⟨hO, hH⟩ := sAll_hd hz hB 1601 0 Z0 j E hs okN_Z0 (Or.inl rfl)
      have h71 : gR K 7 1 = p := f4.1.1.1
      have k8 : gI K (p + 8) 0 = 0 := (r2 _ _ n8).trans h8
      have hO1 := hO.1.1
      have pw : 2 ^ E 0 0 ≤ 2 ^ 8 := Nat.pow_le_pow_right (by decide) hO1
      obtain ⟨K2, s1, s2⟩ := settle_ok (p := p) (N := K) (T := E 3) (n := E 0 0) (nc := E 0 1) hO1 hO.1.2.1 f4.1.2.1 f4.1.2.2.2.1 (fun c hc => ⟨(f4.2.2.1 c hc).2.1, by have := (hO.2.2.1 c hc).2.1; omega⟩) (fun l hl => (f4.2.1 l hl).2.2.1) k8
      have s8 : gI K2 (p + 8) 0 = 0 := by rw [s2.2.2.2.2 0 (Nat.two_pow_pos _), xt_0]; rfl
      refine ⟨1, K2, ?_, fun c k q => (s2.1 c k).trans (r1 c k q), fun c k q => ?_, s8, Or.inl ⟨j, E, rfl, rfl, hO, hH, ?_, ?_, PL_of hp f4 s2, ?_, s2.2.2.1⟩⟩
      · rw [bn2_l, h71, ckK_eq (kd_p hp), s1, bnd_s]
      · have hw : ¬ wC p c := fun e => q (Or.inl e)
        rw [s2.2.1 c k (fun e => hw (by unfold wC; have : ¬ c = p + 8 := fun e => q (Or.inr e); omega))]
        exact r2 c k hw
      · rw [s2.2.1 7 4 (by omega)]; exact f4.1.1.2.1
      · rw [s2.2.1 7 5 (by omega)]; exact f4.1.1.2.2
      · rw [s2.2.1 p 16 (by omega)]; exact f4.1.2.2.2.2.2.2.1
  | inr q =>
    obtain ⟨k, pl⟩ := q
    rw [hs] at o2
    cases o with
    | inl x => exact False.elim o2
    | inr x =>
      obtain ⟨v, K⟩ := x
      obtain ⟨f1, f2, f3, f4⟩ := o2
      obtain ⟨r1, r2⟩ := fr K f1
      exact ⟨v, K, rfl, r1, fun c k q => r2 c k (fun e => q (Or.inl e)), (r2 _ _ n8).trans h8, Or.inr ⟨k, pl, rfl, f2, f3, f4⟩⟩
end CR
