section BR
variable {G : GT} {d m pc : Nat} {ls st as : List Value} {M : AM} {nc ns : Nat} {Q : AM → Option Value → Prop} {β : Type} {o : β}
theorem B_fgt (bs : List Bool) (h : PW G d m pc (fgt bs ls) st M nc ns Q) : PW G d m pc ls st M nc ns Q := P_forget _ (fgt_Fg bs ls) h
theorem B_iconst {n : Int} {v : Int32} (hd : decode (mC m) pc = .ok (.iconst n, 1)) (hv : Int32.ofInt n = v) (h : PW G d m (pc + 1) ls (.int v :: st) M nc ns Q) : PW G d m pc ls st M nc ns Q := P_iconst hd hv h
theorem B_istore_n {k : Fin 4} {n : Nat} {x : Int32} (hd : decode (mC m) pc = .ok (.istore_n k, 1)) (hm : mL m = n) (hi : Nat.blt k n = true) (ho : okS ls k = true) (h : PW G d m (pc + 1) (ls.set k (.int x)) st M nc ns Q) : PW G d m pc ls (.int x :: st) M nc ns Q := P_istore_n hd (by rw [hm]; exact Nat.le_of_ble_eq_true hi) ho h
theorem B_iinc {k n : Nat} {x c : Int32} {z : Int} (hd : decode (mC m) pc = .ok (.iinc k z, 3)) (hc : Int32.ofInt z = c) (hl : ls[k]? = some (.int x)) (hm : mL m = n) (hi : Nat.blt k n = true) (ho : okS ls k = true) (h : PW G d m (pc + 3) (ls.set k (.int (x + c))) st M nc ns Q) : PW G d m pc ls st M nc ns Q := P_iinc hd hl (by rw [hc]) (by rw [hm]; exact Nat.le_of_ble_eq_true hi) ho h
theorem B_sld {n : Nat} {xs : Nat → Int32} {i : Int32} {κ : Int32 → Option β} (hd : decode (mC m) pc = .ok (.iaload, 1)) (hn : gLn G = n) (hx : gxs G = xs) (hf : sald n xs i κ = some o) (h : κ (xs i.toNatClampNeg) = some o → PW G d m (pc + 1) ls (.int (xs i.toNatClampNeg) :: st) M nc ns Q) : PW G d m pc ls (.int i :: .ref 1000 :: st) M nc ns Q := by
  subst hn; subst hx; unfold sald at hf
  split at hf
  · cases hf
  · rename_i q; exact P_sld hd q (h hf)
theorem B_icmp_eq {x y : Int32} {off : Int} {tgt : Nat} {A B : Option β} (hd : decode (mC m) pc = .ok (.if_icmp .eq off, 3)) (ht : (pc : Int) + off = (tgt : Int)) (hf : (if x = y then A else B) = some o) (kt : A = some o → PW G d m tgt ls st M nc ns Q) (kf : B = some o → PW G d m (pc + 3) ls st M nc ns Q) : PW G d m pc ls (.int y :: .int x :: st) M nc ns Q := by
  split at hf
  · rename_i q; exact P_icmp_eq hd ht (fun _ => kt hf) (fun z => absurd q z)
  · rename_i q; exact P_icmp_eq hd ht (fun z => absurd z q) (fun _ => kf hf)
theorem B_icmp_ne {x y : Int32} {off : Int} {tgt : Nat} {A B : Option β} (hd : decode (mC m) pc = .ok (.if_icmp .ne off, 3)) (ht : (pc : Int) + off = (tgt : Int)) (hf : (if x = y then A else B) = some o) (kt : B = some o → PW G d m tgt ls st M nc ns Q) (kf : A = some o → PW G d m (pc + 3) ls st M nc ns Q) : PW G d m pc ls (.int y :: .int x :: st) M nc ns Q := by
  split at hf
  · rename_i q; exact P_icmp_ne hd ht (fun z => absurd q z) (fun _ => kf hf)
  · rename_i q; exact P_icmp_ne hd ht (fun _ => kt hf) (fun z => absurd z q)
theorem B_icmp_gt {x y : Int32} {off : Int} {tgt : Nat} {A B : Option β} (hd : decode (mC m) pc = .ok (.if_icmp .gt off, 3)) (ht : (pc : Int) + off = (tgt : Int)) (hf : (if y < x then A else B) = some o) (kt : A = some o → PW G d m tgt ls st M nc ns Q) (kf : B = some o → PW G d m (pc + 3) ls st M nc ns Q) : PW G d m pc ls (.int y :: .int x :: st) M nc ns Q := by
  split at hf
  · rename_i q; exact P_icmp_gt hd ht (fun _ => kt hf) (fun z => absurd q z)
  · rename_i q; exact P_icmp_gt hd ht (fun z => absurd z q) (fun _ => kf hf)
theorem B_icmp_ge {x y : Int32} {off : Int} {tgt : Nat} {A B : Option β} (hd : decode (mC m) pc = .ok (.if_icmp .ge off, 3)) (ht : (pc : Int) + off = (tgt : Int)) (hf : (if y ≤ x then A else B) = some o) (kt : A = some o → PW G d m tgt ls st M nc ns Q) (kf : B = some o → PW G d m (pc + 3) ls st M nc ns Q) : PW G d m pc ls (.int y :: .int x :: st) M nc ns Q := by
  split at hf
  · rename_i q; exact P_icmp_ge hd ht (fun _ => kt hf) (fun z => absurd q z)
  · rename_i q; exact P_icmp_ge hd ht (fun z => absurd z q) (fun _ => kf hf)
theorem B_icmp_lt {x y : Int32} {off : Int} {tgt : Nat} {A B : Option β} (hd : decode (mC m) pc = .ok (.if_icmp .lt off, 3)) (ht : (pc : Int) + off = (tgt : Int)) (hf : (if x < y then A else B) = some o) (kt : A = some o → PW G d m tgt ls st M nc ns Q) (kf : B = some o → PW G d m (pc + 3) ls st M nc ns Q) : PW G d m pc ls (.int y :: .int x :: st) M nc ns Q := by
  split at hf
  · rename_i q; exact P_icmp_lt hd ht (fun _ => kt hf) (fun z => absurd q z)
  · rename_i q; exact P_icmp_lt hd ht (fun z => absurd z q) (fun _ => kf hf)
theorem B_icmp_le {x y : Int32} {off : Int} {tgt : Nat} {A B : Option β} (hd : decode (mC m) pc = .ok (.if_icmp .le off, 3)) (ht : (pc : Int) + off = (tgt : Int)) (hf : (if x ≤ y then A else B) = some o) (kt : A = some o → PW G d m tgt ls st M nc ns Q) (kf : B = some o → PW G d m (pc + 3) ls st M nc ns Q) : PW G d m pc ls (.int y :: .int x :: st) M nc ns Q := by
  split at hf
  · rename_i q; exact P_icmp_le hd ht (fun _ => kt hf) (fun z => absurd q z)
  · rename_i q; exact P_icmp_le hd ht (fun z => absurd z q) (fun _ => kf hf)
theorem B_if_eq {x : Int32} {off : Int} {tgt : Nat} {A B : Option β} (hd : decode (mC m) pc = .ok (.ifCond .eq off, 3)) (ht : (pc : Int) + off = (tgt : Int)) (hf : (if x = 0 then A else B) = some o) (kt : A = some o → PW G d m tgt ls st M nc ns Q) (kf : B = some o → PW G d m (pc + 3) ls st M nc ns Q) : PW G d m pc ls (.int x :: st) M nc ns Q := by
  split at hf
  · rename_i q; exact P_if_eq hd ht (fun _ => kt hf) (fun z => absurd q z)
  · rename_i q; exact P_if_eq hd ht (fun z => absurd z q) (fun _ => kf hf)
theorem B_if_ne {x : Int32} {off : Int} {tgt : Nat} {A B : Option β} (hd : decode (mC m) pc = .ok (.ifCond .ne off, 3)) (ht : (pc : Int) + off = (tgt : Int)) (hf : (if x = 0 then A else B) = some o) (kt : B = some o → PW G d m tgt ls st M nc ns Q) (kf : A = some o → PW G d m (pc + 3) ls st M nc ns Q) : PW G d m pc ls (.int x :: st) M nc ns Q := by
  split at hf
  · rename_i q; exact P_if_ne hd ht (fun z => absurd q z) (fun _ => kf hf)
  · rename_i q; exact P_if_ne hd ht (fun _ => kt hf) (fun z => absurd z q)
theorem B_zret {v : Int32} {p : Int32 × AM} (hN : nc ≤ mcT m ∧ ns ≤ msT m) (hd : decode (mC m) pc = .ok (.ireturn, 1)) (hr : mR m = some .boolean) (hW : WT M) (hb : v = 0 ∨ v = 1) (hf : some (v, M) = some p) (k : WT p.2 → (p.1 = 0 ∨ p.1 = 1) → Q p.2 (some (.int p.1))) : PW G d m pc ls [.int v] M nc ns Q := by
  cases hf; exact P_iret hd hr (by rcases hb with rfl | rfl <;> rfl) hN.1 hN.2 (k hW hb)
theorem B_V {m' idx n ci x : Nat} {stk : List Value} {α : Type} {z : Option (α × AM)} {κ : α → AM → Option β} (hN : nc ≤ mcT m ∧ ns ≤ msT m) (hd : decode (mC m) pc = .ok (.invokevirtual idx, 3)) (hv : VK m idx m' n ci) (hn : as.length = n) (hstk : stk = as.reverse ++ .ref x :: st) (hcat : Nat.ble (st.map fun v => v.category).sum 8 = true) (hk : kd0 x = ci + 1) (hW : WT M) (hsl : Nat.ble (slo (.ref x :: as)).length (mL m') = true) (hf : bnd z κ = some o) (h : ∀ r M1, z = some (r, M1) → κ r M1 = some o → Cal G d m' (.ref x :: as) M (fun M' r => PW G (d + 1) m (pc + 3) ls (r.toList ++ st) M' nc ns Q)) : PW G (d + 1) m pc ls stk M nc ns Q := by
  obtain ⟨r, M1, h1, h2⟩ := bnd_some hf
  obtain ⟨hl, hi, hm, ⟨e1, e2⟩, q, hq, hsel, hci⟩ := hv
  refine P_callV q hd hl hi hsel hm hn hstk (Nat.le_of_ble_eq_true hcat) hq hk (wt_lt hW hk hci) (Nat.le_of_ble_eq_true hsl) (by rw [e1]; exact hN.1) (by rw [e2]; exact hN.2) ?_
  rw [e1, e2]
  exact h r M1 h1 h2
theorem B_tsw {dflt lo hi : Int} {offs : Array Int} {len : Nat} {x : Int32} {l : List (Int32 × Option β)} {D : Option β} (ks : List Int32) (ts : List Nat) (tD : Nat) (hd : decode (mC m) pc = .ok (.tableswitch dflt lo hi offs, len)) (hks : l.map (fun q => q.1) = ks) (hc : tchk pc dflt lo hi offs ks ts tD = true) (hf : swi x l D = some o) (hI : ∀ (i : Nat) (A : Option β) (t : Nat), l[i]? = some (x, A) → ts[i]? = some t → A = some o → PW G d m t ls st M nc ns Q) (hD : D = some o → PW G d m tD ls st M nc ns Q) : PW G d m pc ls (.int x :: st) M nc ns Q := by
  simp only [tchk, Bool.and_eq_true, decide_eq_true_eq, List.all_eq_true, List.mem_range] at hc
  obtain ⟨⟨⟨⟨⟨⟨h0, h00⟩, h1⟩, h2⟩, h3⟩, h4⟩, h5⟩ := hc
  rcases swi_case hf with ⟨i, A, e1, e2⟩ | ⟨e1, e2⟩
  · have hil : i < ks.length := by rw [← hks, List.length_map]; exact (List.getElem?_eq_some_iff.mp e1).1
    obtain ⟨g1, g2⟩ := h4 i hil
    have hx : x = nI (lo.toNat + i) := by
      have : ks[i]? = some x := by rw [← hks, List.getElem?_map, e1]; rfl
      exact Option.some.inj (this.symm.trans g1)
    have hti : x.toInt = lo + (i : Int) := by rw [hx, nI_toInt (by omega)]; omega
    have ht : ∃ t, ts[i]? = some t := ⟨_, List.getElem?_eq_getElem (by omega)⟩
    obtain ⟨t, ht⟩ := ht
    rw [ht] at g2
    cases ho : offs[i]? with
    | none => rw [ho] at g2; cases g2
    | some off =>
      rw [ho] at g2
      exact P_tabIn hd (by omega) (by omega) (by rw [show (x.toInt - lo).toNat = i by omega]; exact ho) (Option.some.inj g2) (hI i A t e1 ht e2)
  · refine P_tabOut hd ?_ h3 (hD e2)
    rcases Int.lt_or_le x.toInt lo with q | q
    · exact Or.inl q
    · right
      rcases Int.lt_or_le hi x.toInt with q2 | q2
      · exact q2
      · exfalso
        have hn : (x.toInt - lo).toNat < ks.length := by omega
        obtain ⟨g1, -⟩ := h4 _ hn
        have : ks[(x.toInt - lo).toNat]? = (l[(x.toInt - lo).toNat]?).map (fun q => q.1) := by rw [← hks, List.getElem?_map]
        rw [this] at g1
        cases hl : l[(x.toInt - lo).toNat]? with
        | none => rw [hl] at g1; cases g1
        | some w =>
          rw [hl] at g1
          have h6 : w.1 = nI (lo.toNat + (x.toInt - lo).toNat) := Option.some.inj g1
          refine e1 w (List.mem_of_getElem? hl) ?_
          rw [h6]
          exact Int32.toInt_inj.mp (by rw [nI_toInt (by omega)]; omega)
theorem B_V0 {m' idx ci x nl : Nat} {α : Type} {z : Option (α × AM)} {κ : α → AM → Option β} (hN : nc ≤ mcT m ∧ ns ≤ msT m) (hd : decode (mC m) pc = .ok (.invokevirtual idx, 3)) (hv : VK m idx m' 0 ci) (hml : mL m' = nl) (hcat : Nat.ble (st.map fun v => v.category).sum 8 = true) (hk : kd0 x = ci + 1) (hW : WT M) (hsl : Nat.ble (slo (.ref x :: [])).length nl = true) (hf : bnd z κ = some o) (h : ∀ r M1, z = some (r, M1) → κ r M1 = some o → Cal G d m' (.ref x :: []) M (fun M' r => PW G (d + 1) m (pc + 3) ls (r.toList ++ st) M' nc ns Q)) : PW G (d + 1) m pc ls (.ref x :: st) M nc ns Q := by
  subst hml; exact B_V (as := []) hN hd hv rfl rfl hcat hk hW hsl hf h
theorem B_V1 {m' idx ci x nl : Nat} {a1 : Value} {α : Type} {z : Option (α × AM)} {κ : α → AM → Option β} (hN : nc ≤ mcT m ∧ ns ≤ msT m) (hd : decode (mC m) pc = .ok (.invokevirtual idx, 3)) (hv : VK m idx m' 1 ci) (hml : mL m' = nl) (hcat : Nat.ble (st.map fun v => v.category).sum 8 = true) (hk : kd0 x = ci + 1) (hW : WT M) (hsl : Nat.ble (slo (.ref x :: [a1])).length nl = true) (hf : bnd z κ = some o) (h : ∀ r M1, z = some (r, M1) → κ r M1 = some o → Cal G d m' (.ref x :: [a1]) M (fun M' r => PW G (d + 1) m (pc + 3) ls (r.toList ++ st) M' nc ns Q)) : PW G (d + 1) m pc ls (a1 :: .ref x :: st) M nc ns Q := by
  subst hml; exact B_V (as := [a1]) hN hd hv rfl rfl hcat hk hW hsl hf h
theorem B_V2 {m' idx ci x nl : Nat} {a1 a2 : Value} {α : Type} {z : Option (α × AM)} {κ : α → AM → Option β} (hN : nc ≤ mcT m ∧ ns ≤ msT m) (hd : decode (mC m) pc = .ok (.invokevirtual idx, 3)) (hv : VK m idx m' 2 ci) (hml : mL m' = nl) (hcat : Nat.ble (st.map fun v => v.category).sum 8 = true) (hk : kd0 x = ci + 1) (hW : WT M) (hsl : Nat.ble (slo (.ref x :: [a1, a2])).length nl = true) (hf : bnd z κ = some o) (h : ∀ r M1, z = some (r, M1) → κ r M1 = some o → Cal G d m' (.ref x :: [a1, a2]) M (fun M' r => PW G (d + 1) m (pc + 3) ls (r.toList ++ st) M' nc ns Q)) : PW G (d + 1) m pc ls (a2 :: a1 :: .ref x :: st) M nc ns Q := by
  subst hml; exact B_V (as := [a1, a2]) hN hd hv rfl rfl hcat hk hW hsl hf h
theorem B_V3 {m' idx ci x nl : Nat} {a1 a2 a3 : Value} {α : Type} {z : Option (α × AM)} {κ : α → AM → Option β} (hN : nc ≤ mcT m ∧ ns ≤ msT m) (hd : decode (mC m) pc = .ok (.invokevirtual idx, 3)) (hv : VK m idx m' 3 ci) (hml : mL m' = nl) (hcat : Nat.ble (st.map fun v => v.category).sum 8 = true) (hk : kd0 x = ci + 1) (hW : WT M) (hsl : Nat.ble (slo (.ref x :: [a1, a2, a3])).length nl = true) (hf : bnd z κ = some o) (h : ∀ r M1, z = some (r, M1) → κ r M1 = some o → Cal G d m' (.ref x :: [a1, a2, a3]) M (fun M' r => PW G (d + 1) m (pc + 3) ls (r.toList ++ st) M' nc ns Q)) : PW G (d + 1) m pc ls (a3 :: a2 :: a1 :: .ref x :: st) M nc ns Q := by
  subst hml; exact B_V (as := [a1, a2, a3]) hN hd hv rfl rfl hcat hk hW hsl hf h
theorem B_V4 {m' idx ci x nl : Nat} {a1 a2 a3 a4 : Value} {α : Type} {z : Option (α × AM)} {κ : α → AM → Option β} (hN : nc ≤ mcT m ∧ ns ≤ msT m) (hd : decode (mC m) pc = .ok (.invokevirtual idx, 3)) (hv : VK m idx m' 4 ci) (hml : mL m' = nl) (hcat : Nat.ble (st.map fun v => v.category).sum 8 = true) (hk : kd0 x = ci + 1) (hW : WT M) (hsl : Nat.ble (slo (.ref x :: [a1, a2, a3, a4])).length nl = true) (hf : bnd z κ = some o) (h : ∀ r M1, z = some (r, M1) → κ r M1 = some o → Cal G d m' (.ref x :: [a1, a2, a3, a4]) M (fun M' r => PW G (d + 1) m (pc + 3) ls (r.toList ++ st) M' nc ns Q)) : PW G (d + 1) m pc ls (a4 :: a3 :: a2 :: a1 :: .ref x :: st) M nc ns Q := by
  subst hml; exact B_V (as := [a1, a2, a3, a4]) hN hd hv rfl rfl hcat hk hW hsl hf h
theorem B_V5 {m' idx ci x nl : Nat} {a1 a2 a3 a4 a5 : Value} {α : Type} {z : Option (α × AM)} {κ : α → AM → Option β} (hN : nc ≤ mcT m ∧ ns ≤ msT m) (hd : decode (mC m) pc = .ok (.invokevirtual idx, 3)) (hv : VK m idx m' 5 ci) (hml : mL m' = nl) (hcat : Nat.ble (st.map fun v => v.category).sum 8 = true) (hk : kd0 x = ci + 1) (hW : WT M) (hsl : Nat.ble (slo (.ref x :: [a1, a2, a3, a4, a5])).length nl = true) (hf : bnd z κ = some o) (h : ∀ r M1, z = some (r, M1) → κ r M1 = some o → Cal G d m' (.ref x :: [a1, a2, a3, a4, a5]) M (fun M' r => PW G (d + 1) m (pc + 3) ls (r.toList ++ st) M' nc ns Q)) : PW G (d + 1) m pc ls (a5 :: a4 :: a3 :: a2 :: a1 :: .ref x :: st) M nc ns Q := by
  subst hml; exact B_V (as := [a1, a2, a3, a4, a5]) hN hd hv rfl rfl hcat hk hW hsl hf h
end BR
