/-! the whole dusk, run by the reference -/
section RU
variable {B : Nat → Nat} {z : Nat}
theorem sgk_lt (k : Nat) : sgk k < 128 ∧ ¬ sgk k = 20 ∧ ¬ sgk k = 21 := by
  rcases tgs_cases k with ⟨_, x, _⟩ | ⟨_, y, x⟩ | ⟨_, y, x⟩ | ⟨_, y, x, _⟩ | ⟨_, y, x⟩ | ⟨_, y, x⟩
  · omega
  · omega
  · omega
  · unfold rel3 at y; omega
  · omega
  · omega
theorem f35_no {N0 N : AM} {q : Nat × Nat} (h : MO B z N0 (.inr q) N) (y : Nat) : f_Mo_formula_l35 (y + 1) 1 N = some ((), N) := by
  rcases h.cases with ⟨j, E', g1, -⟩ | ⟨q', g1, g2, g3, g4⟩
  · cases g1
  · show f_Mo_formula_b35 (f_Mo_formula_l35 y) 1 N = _
    unfold f_Mo_formula_b35
    rw [if_neg (by decide), if_neg g2]
theorem main_run (hz : z ≤ 1600) (hB : ∀ i, i < z → B i < 256) : ∀ K i S E N y, ¬ MA (byt B z) K false i S E = .inr (0, 0) → K + 1 < y → K < 2000 → YS B z N i S E → gI N 105 23 = nI (dpt S) → IV false S E → ∃ M, bnd (f_Mo_formula_l35 y 1 N) (fun _ M11 => fendJ M11) = some ((), M) ∧ MO B z N (MA (byt B z) K false i S E) M := by
  intro K
  induction K using Nat.strongRecOn with
  | ind K ih =>
    intro i S E N y hK hy h2000 h h23 hI
    cases K with
    | zero => exact absurd rfl hK
    | succ K =>
      obtain ⟨y, rfl⟩ : ∃ x, y = x + 2 := ⟨y - 2, by omega⟩
      have h2 : gI N 105 2 = 0 := h.1.2.2.1.1.1
      obtain ⟨l1, l2⟩ := hI.len
      obtain ⟨u30, d7, iv1, iv2⟩ := id hI
      have i41 : gI N 105 6 = 41 ↔ knd (byt B z) i = 41 := (sI6 hz hB h.1.1 41 (by decide)).trans (srt_iff (by decide) (by decide))
      have sg1 := sign_ok hz hB h.1.1
      have hb1 := hasBracket_ok h.2.2.2.2.1 l1 h.2.2.1
      obtain ⟨sl, s20, s21⟩ := sgk_lt (knd (byt B z) i)
      have t6 := tgt_6 (sgk (knd (byt B z) i))
      have stop0 : f_Mo_formula_l35 (y + 1) 0 N = some ((), N) := by
        show f_Mo_formula_b35 (f_Mo_formula_l35 y) 0 N = _
        unfold f_Mo_formula_b35
        rw [if_pos rfl]
      have un : f_Mo_formula_l35 (y + 2) 1 N = f_Mo_formula_b35 (f_Mo_formula_l35 (y + 1)) 1 N := rfl
      rw [MA_m] at hK ⊢
      by_cases e : knd (byt B z) i = 41 ∧ brk S = true
      · rw [if_pos e] at hK ⊢
        obtain ⟨S', hS'⟩ := clo_brk S E e.2
        obtain ⟨c1, c2, c3, c4⟩ := clo_iv 0 S E
        obtain ⟨K1, k1, k2, k3, k4⟩ := close_ok (t := 0) (by decide) h h23 hI
        have k1' : f_Mo_close 0 N = some ((), K1) := k1
        rw [hS'] at hK k2 k3 c1 c2 c3 ⊢
        generalize (clo 0 S E).2 = E1 at *
        have tl : (20 :: S').tail = S' := rfl
        rw [tl] at hK ⊢
        have k19 : gI K1 105 19 = nI (S'.length + 1) := k2.2.2.1
        have k23 : gI (sI K1 105 19 (nI S'.length)) 105 23 = nI (dpt S' + 1) := by rw [gI_sI, if_neg (by omega)]; exact k3
        have hl := (k2.low).w23 (v := nI (dpt S'))
        obtain ⟨K2, t1, t2, t3⟩ := mstep hz hB hl.1
        have hred : f_Mo_formula_l35 (y + 2) 1 N = f_Mo_formula_l35 (y + 1) 1 K2 := by
          rw [un]
          unfold f_Mo_formula_b35
          rw [if_neg (by decide), h2, if_pos rfl, sg1, bnd_s, if_pos (i41.mpr e.1), hb1, bnd_s, if_pos e.2, if_neg (by decide), k1', bnd_s, wI_eq, k19, nI_lit 1, pk_sub (by omega), Nat.add_sub_cancel, wI_eq, k23, pk_sub (by omega), Nat.add_sub_cancel, t1, bnd_s]
        rw [hred]
        have d1 : dpt (20 :: S') = dpt S' + 1 := rfl
        have n1 : nbS (20 :: S') = nbS S' := rfl
        have o1 : opS (20 :: S') = opS S' := rfl
        obtain ⟨M, x1, x2⟩ := ih K (by omega) (i + 1) S' E1 K2 (y + 1) hK (by omega) (by omega) (hl.fm t2 t3) (by rw [t3.2.1 105 23 (by omega), gI_sI, if_pos ⟨rfl, rfl⟩]) ⟨by omega, by omega, by omega, by omega⟩
        exact ⟨M, x1, x2.from (((k4.sI (by unfold wM; omega)).sI (by unfold wM; omega)).trans t3.fr)⟩
      · rw [if_neg e] at hK ⊢
        have hred : f_Mo_formula_l35 (y + 2) 1 N = f_Mo_formula_j99 (f_Mo_formula_l35 (y + 1)) 1 (nI (sgk (knd (byt B z) i))) N := by
          rw [un]
          unfold f_Mo_formula_b35
          rw [if_neg (by decide), h2, if_pos rfl, sg1, bnd_s]
          by_cases e41 : knd (byt B z) i = 41
          · rw [if_pos (i41.mpr e41), hb1, bnd_s, if_neg (fun q => e ⟨e41, q⟩), if_pos rfl]
          · rw [if_neg (fun q => e41 (i41.mp q))]
        rw [hred]
        unfold f_Mo_formula_j99
        by_cases e0 : sgk (knd (byt B z) i) = 0
        · rw [if_pos (Or.inl e0), e0, if_pos (show nI 0 = 0 from rfl), stop0, bnd_s]
          exact fend_ok hz hB h h23 hI
        · have et : tgs (knd (byt B z) i) = tgt (sgk (knd (byt B z) i)) := if_neg e0
          rw [if_neg (show ¬ nI (sgk (knd (byt B z) i)) = 0 from fun q => e0 ((nI_eq (b := 0) (by omega) (by decide)).mp q)), tight_ok (by omega), bnd_s]
          by_cases ef : tgs (knd (byt B z) i) = 4 ∧ hrel S = true
          · rw [if_pos (Or.inr ef), if_pos (show nI (tgt (sgk (knd (byt B z) i))) = 4 by rw [← et, ef.1]; rfl), hasRelation_ok h.2.2.2.2.1 l1 h.2.2.1, bnd_s, if_pos ef.2, if_neg (by decide), stop0, bnd_s]
            exact fend_ok hz hB h h23 hI
          · have nn : ¬ (sgk (knd (byt B z) i) = 0 ∨ (tgs (knd (byt B z) i) = 4 ∧ hrel S = true)) := fun q => q.elim e0 ef
            rw [if_neg nn] at hK
            have hj : (if nI (tgt (sgk (knd (byt B z) i))) = 4 then bnd (f_Mo_hasRelation N) (fun r3 M4 => if r3 = 0 then f_Mo_formula_j118 (f_Mo_formula_l35 (y + 1)) 1 (nI (sgk (knd (byt B z) i))) M4 else f_Mo_formula_l35 (y + 1) 0 M4) else f_Mo_formula_j118 (f_Mo_formula_l35 (y + 1)) 1 (nI (sgk (knd (byt B z) i))) N) = f_Mo_formula_j118 (f_Mo_formula_l35 (y + 1)) 1 (nI (sgk (knd (byt B z) i))) N := by
              by_cases e4 : tgt (sgk (knd (byt B z) i)) = 4
              · rw [if_pos (show nI (tgt (sgk (knd (byt B z) i))) = 4 by rw [e4]; rfl), hasRelation_ok h.2.2.2.2.1 l1 h.2.2.1, bnd_s, if_neg (fun q => ef ⟨by rw [et]; exact e4, q⟩), if_pos rfl]
              · rw [if_neg (show ¬ nI (tgt (sgk (knd (byt B z) i))) = 4 from fun q => e4 ((nI_eq (b := 4) (by omega) (by decide)).mp q))]
            rw [hj, if_neg nn]
            unfold f_Mo_formula_j118
            rw [et] at hK ⊢
            obtain ⟨c1, c2, c3, c4⟩ := clo_iv (tgt (sgk (knd (byt B z) i))) S E
            obtain ⟨K1, k1, k2, k3, k4⟩ := close_ok (t := tgt (sgk (knd (byt B z) i))) (by omega) h h23 hI
            rw [tight_ok (by omega), bnd_s, k1, bnd_s]
            generalize sgk (knd (byt B z) i) = o at *
            generalize (clo (tgt o) S E).2 = E1 at *
            generalize (clo (tgt o) S E).1 = S1 at *
            have k19 : gI K1 105 19 = nI S1.length := k2.2.2.1
            have hls := len_S S1
            have e19 : gI (sI K1 112 S1.length (nI o)) 105 19 = nI S1.length := by rw [gI_sI, if_neg (by omega)]; exact k19
            have hp := k2.push (K := K1) (o := o) (by omega)
            obtain ⟨K2, t1, t2, t3⟩ := mstep hz hB hp.1
            rw [k19, ast_nI (by omega) (by decide), wI_eq, e19, nI_1, t1, bnd_s]
            have f2 : FR N K2 := ((k4.sI (by unfold wM; omega)).sI (by unfold wM; omega)).trans t3.fr
            have d1 : dpt (o :: S1) = dpt S1 := by
              show dpt S1 + (if o = 20 ∨ o = 21 then 1 else 0) = _
              rw [if_neg (by omega)]; rfl
            have n1 : nbS (o :: S1) = nbS S1 + 1 := by
              show nbS S1 + (if o = 20 then 0 else 1) = _
              rw [if_neg s20]
            have o1 : opS (o :: S1) = opS S1 + 1 := by
              show opS S1 + (if o = 20 ∨ o = 21 then 0 else 1) = _
              rw [if_neg (by omega)]
            obtain ⟨M1, x1, x2⟩ := unit_run hz hB K (i + 1) (o :: S1) E1 K2 fu hK (by rw [fu_eq]; omega) (hp.fm t2 t3) (by rw [t3.2.1 105 23 (by omega), gI_sI, if_neg (by omega), gI_sI, if_neg (by omega), k3, d1]) ⟨by omega, by omega, by omega, by omega⟩
            have x1' : f_Mo_unit K2 = some ((), M1) := x1
            rw [x1', bnd_s]
            rcases x2 with ⟨K', i', S', E', y1, y2, y3, y4, y5, y6⟩ | ⟨q, y1, y2⟩
            · rw [y2] at hK ⊢
              obtain ⟨M, z1, z2⟩ := ih K' (by omega) i' S' E' M1 (y + 1) hK (by omega) (by omega) y3 y4 y5
              exact ⟨M, z1, z2.from (f2.trans y6)⟩
            · rw [y1, f35_no y2 y, bnd_s]
              obtain ⟨M, z1, z2⟩ := fend_no hz hB y2
              exact ⟨M, z1, z2.from f2⟩
end RU
