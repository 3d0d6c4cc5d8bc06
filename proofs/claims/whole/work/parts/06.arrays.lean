section ARR
variable {G : GT} {d m pc : Nat} {ls st : List Value} {M M' : AM} {nc ns : Nat} {Q : AM → Option Value → Prop}
theorem arr_at {s : State} {H : Heap} (hs : SW G s) (hw : WR G M H) {x k : Nat} (hk : kd0 x = k) (h1 : 20 ≤ k) (h2 : k ≤ 24) (hn : x < nx M) : x < 999 ∧ H[gbase G + x]? = some (arrV (gdA G k) (ln0 x) (fun j => cv G (fv M x (acode k) j))) ∧ s.isArrayOf (arrV (gdA G k) (ln0 x) (fun j => cv G (fv M x (acode k) j))) (aty k) := by
  subst hk
  refine ⟨by have := hw.2.1; omega, (hw.2.2 x hn).2 h1 h2, (hs.2.1 _ h1 h2).1 _ _⟩
theorem arrV_get {cI : ClassId} {N : Nat} {f : Nat → Value} {j : Nat} (h : j < N) : (arrV cI N f).slots[j]? = some (f j) := by
  unfold arrV
  simp [h]
theorem P_iald {x : Nat} {i : Int32} (hd : decode (mC m) pc = .ok (.iaload, 1)) (hk : kd0 x = 20) (hn : x < nx M) (hi : ¬ (i < 0 ∨ ln0 x ≤ i.toNatClampNeg)) (h : PW G d m (pc + 1) ls (.int (gI M x i.toNatClampNeg) :: st) M nc ns Q) : PW G d m pc ls (.int i :: .ref x :: st) M nc ns Q := by
  intro p e R s mid args below meth c H locs lsM X
  obtain ⟨hx, a1, a2⟩ := arr_at X.1.2.2.2.2.2.2.2.2 X.2.2.1 hk (by decide) (by decide) hn
  show W p (gl G) e R s mid args below meth c H locs nc ns _ (F0 mid pc lsM (.int i :: cr G x :: st.map (cv G)))
  rw [cr_lt hx]
  have hlt : i.toNatClampNeg < ln0 x := Nat.not_le.mp fun q => hi (Or.inr q)
  exact W.iald X.1.1 X.1.2.1 a1 a2 (fun q => by cases q) (by rw [arrV_size]; exact hi) (arrV_get hlt) rfl rfl hd (h p e R s mid args below meth c H locs lsM X)
theorem P_bald {x : Nat} {i : Int32} (hd : decode (mC m) pc = .ok (.baload, 1)) (hk : kd0 x = 22) (hn : x < nx M) (hi : ¬ (i < 0 ∨ ln0 x ≤ i.toNatClampNeg)) (h : PW G d m (pc + 1) ls (.int (gI M x i.toNatClampNeg) :: st) M nc ns Q) : PW G d m pc ls (.int i :: .ref x :: st) M nc ns Q := by
  intro p e R s mid args below meth c H locs lsM X
  obtain ⟨hx, a1, a2⟩ := arr_at X.1.2.2.2.2.2.2.2.2 X.2.2.1 hk (by decide) (by decide) hn
  show W p (gl G) e R s mid args below meth c H locs nc ns _ (F0 mid pc lsM (.int i :: cr G x :: st.map (cv G)))
  rw [cr_lt hx]
  have hlt : i.toNatClampNeg < ln0 x := Nat.not_le.mp fun q => hi (Or.inr q)
  exact W.bald X.1.1 X.1.2.1 a1 a2 (fun q => by cases q) (by rw [arrV_size]; exact hi) (arrV_get hlt) rfl rfl hd (h p e R s mid args below meth c H locs lsM X)
theorem P_zald {x : Nat} {i : Int32} (hd : decode (mC m) pc = .ok (.baload, 1)) (hk : kd0 x = 23) (hn : x < nx M) (hi : ¬ (i < 0 ∨ ln0 x ≤ i.toNatClampNeg)) (h : PW G d m (pc + 1) ls (.int (gI M x i.toNatClampNeg) :: st) M nc ns Q) : PW G d m pc ls (.int i :: .ref x :: st) M nc ns Q := by
  intro p e R s mid args below meth c H locs lsM X
  obtain ⟨hx, a1, a2⟩ := arr_at X.1.2.2.2.2.2.2.2.2 X.2.2.1 hk (by decide) (by decide) hn
  show W p (gl G) e R s mid args below meth c H locs nc ns _ (F0 mid pc lsM (.int i :: cr G x :: st.map (cv G)))
  rw [cr_lt hx]
  have hlt : i.toNatClampNeg < ln0 x := Nat.not_le.mp fun q => hi (Or.inr q)
  exact W.zald X.1.1 X.1.2.1 a1 a2 (fun q => by cases q) (by rw [arrV_size]; exact hi) (arrV_get hlt) rfl rfl hd (h p e R s mid args below meth c H locs lsM X)
theorem P_lald {x : Nat} {i : Int32} (hd : decode (mC m) pc = .ok (.laload, 1)) (hk : kd0 x = 21) (hn : x < nx M) (hi : ¬ (i < 0 ∨ ln0 x ≤ i.toNatClampNeg)) (h : PW G d m (pc + 1) ls (.long (gL M x i.toNatClampNeg) :: st) M nc ns Q) : PW G d m pc ls (.int i :: .ref x :: st) M nc ns Q := by
  intro p e R s mid args below meth c H locs lsM X
  obtain ⟨hx, a1, a2⟩ := arr_at X.1.2.2.2.2.2.2.2.2 X.2.2.1 hk (by decide) (by decide) hn
  show W p (gl G) e R s mid args below meth c H locs nc ns _ (F0 mid pc lsM (.int i :: cr G x :: st.map (cv G)))
  rw [cr_lt hx]
  have hlt : i.toNatClampNeg < ln0 x := Nat.not_le.mp fun q => hi (Or.inr q)
  exact W.lald X.1.1 X.1.2.1 a1 a2 (fun q => by cases q) (by rw [arrV_size]; exact hi) (arrV_get hlt) rfl rfl hd (h p e R s mid args below meth c H locs lsM X)
theorem P_aald {x : Nat} {i : Int32} (hd : decode (mC m) pc = .ok (.aaload, 1)) (hk : kd0 x = 24) (hn : x < nx M) (hi : ¬ (i < 0 ∨ ln0 x ≤ i.toNatClampNeg)) (h : PW G d m (pc + 1) ls (.ref (gR M x i.toNatClampNeg) :: st) M nc ns Q) : PW G d m pc ls (.int i :: .ref x :: st) M nc ns Q := by
  intro p e R s mid args below meth c H locs lsM X
  obtain ⟨hx, a1, a2⟩ := arr_at X.1.2.2.2.2.2.2.2.2 X.2.2.1 hk (by decide) (by decide) hn
  show W p (gl G) e R s mid args below meth c H locs nc ns _ (F0 mid pc lsM (.int i :: cr G x :: st.map (cv G)))
  rw [cr_lt hx]
  have hlt : i.toNatClampNeg < ln0 x := Nat.not_le.mp fun q => hi (Or.inr q)
  exact W.aald X.1.1 X.1.2.1 a1 a2 rfl (fun q => by cases q) (by rw [arrV_size]; exact hi) (arrV_get hlt) rfl rfl hd (h p e R s mid args below meth c H locs lsM X)
theorem ar_put {s : State} {H H' : Heap} {x k j : Nat} {v : Value} (hs : SW G s) (hw : WR G M H) (hk : kd0 x = k) (h1 : 20 ≤ k) (h2 : k ≤ 24) (hnx : nx M' = nx M) (hne : ∀ c t k, c ≠ x → fv M' c t k = fv M c t k) (hv : ∀ i, fv M' x (acode k) i = if i = j then v else fv M x (acode k) i) (e : H'[gbase G + x]? = some ((arrV (gdA G k) (ln0 x) (fun j => cv G (fv M x (acode k) j))).setSlot j (cv G v))) (z : H'.size = H.size) (oq : ∀ q, q ≠ gbase G + x → H'[q]? = H[q]?) : WR G M' H' := by
  subst hk
  refine hw.upd hnx hne z oq ⟨fun ci q hk' hq => ?_, fun a b => ?_⟩
  · have := cl_lt ci q hq
    omega
  · rw [e, arrV_store]
    congr 2
    funext i
    rw [hv i]
    unfold updV
    split <;> rfl
theorem P_iast {x : Nat} {i v : Int32} (hd : decode (mC m) pc = .ok (.iastore, 1)) (hk : kd0 x = 20) (hn : x < nx M) (hi : ¬ (i < 0 ∨ ln0 x ≤ i.toNatClampNeg)) (h : PW G d m (pc + 1) ls st (sI M x i.toNatClampNeg v) nc ns Q) : PW G d m pc ls (.int v :: .int i :: .ref x :: st) M nc ns Q := by
  intro p e R s mid args below meth c H locs lsM X
  obtain ⟨hx, a1, a2⟩ := arr_at X.1.2.2.2.2.2.2.2.2 X.2.2.1 hk (by decide) (by decide) hn
  show W p (gl G) e R s mid args below meth c H locs nc ns _ (F0 mid pc lsM (.int v :: .int i :: cr G x :: st.map (cv G)))
  rw [cr_lt hx]
  refine W.iast X.1.1 X.1.2.1 a1 a2 (fun q => by cases q) (by rw [arrV_size]; exact hi) rfl rfl hd fun H' e1 z oq => ?_
  exact h p e R s mid args below meth c H' _ lsM ⟨X.1, X.2.1, ar_put (v := .int v) X.1.2.2.2.2.2.2.2.2 X.2.2.1 hk (by decide) (by decide) rfl fv_sI_ne (fun j => fv_sI (t := 0) (Or.inl rfl) 0 j (fun _ => rfl)) e1 z oq, X.2.2.2.1.put z oq (Nat.le_add_right _ _), X.2.2.2.2⟩
theorem P_bast {x : Nat} {i v : Int32} (hd : decode (mC m) pc = .ok (.bastore, 1)) (hk : kd0 x = 22) (hn : x < nx M) (hi : ¬ (i < 0 ∨ ln0 x ≤ i.toNatClampNeg)) (h : PW G d m (pc + 1) ls st (sI M x i.toNatClampNeg v.toInt8.toInt32) nc ns Q) : PW G d m pc ls (.int v :: .int i :: .ref x :: st) M nc ns Q := by
  intro p e R s mid args below meth c H locs lsM X
  obtain ⟨hx, a1, a2⟩ := arr_at X.1.2.2.2.2.2.2.2.2 X.2.2.1 hk (by decide) (by decide) hn
  show W p (gl G) e R s mid args below meth c H locs nc ns _ (F0 mid pc lsM (.int v :: .int i :: cr G x :: st.map (cv G)))
  rw [cr_lt hx]
  refine W.bast X.1.1 X.1.2.1 a1 a2 (fun q => by cases q) (by rw [arrV_size]; exact hi) rfl rfl hd fun H' e1 z oq => ?_
  exact h p e R s mid args below meth c H' _ lsM ⟨X.1, X.2.1, ar_put (v := .int v.toInt8.toInt32) X.1.2.2.2.2.2.2.2.2 X.2.2.1 hk (by decide) (by decide) rfl fv_sI_ne (fun j => fv_sI (t := 0) (Or.inl rfl) 0 j (fun _ => rfl)) e1 z oq, X.2.2.2.1.put z oq (Nat.le_add_right _ _), X.2.2.2.2⟩
theorem P_zast {x : Nat} {i v : Int32} (hd : decode (mC m) pc = .ok (.bastore, 1)) (hk : kd0 x = 23) (hn : x < nx M) (hi : ¬ (i < 0 ∨ ln0 x ≤ i.toNatClampNeg)) (hv : v = 0 ∨ v = 1) (h : PW G d m (pc + 1) ls st (sI M x i.toNatClampNeg v) nc ns Q) : PW G d m pc ls (.int v :: .int i :: .ref x :: st) M nc ns Q := by
  intro p e R s mid args below meth c H locs lsM X
  obtain ⟨hx, a1, a2⟩ := arr_at X.1.2.2.2.2.2.2.2.2 X.2.2.1 hk (by decide) (by decide) hn
  show W p (gl G) e R s mid args below meth c H locs nc ns _ (F0 mid pc lsM (.int v :: .int i :: cr G x :: st.map (cv G)))
  rw [cr_lt hx]
  have hz : narrow .boolean (.int v) = .int v := by rcases hv with rfl | rfl <;> rfl
  refine W.zast X.1.1 X.1.2.1 a1 a2 (fun q => by cases q) (by rw [arrV_size]; exact hi) rfl rfl hd fun H' e1 z oq => ?_
  rw [hz] at e1
  exact h p e R s mid args below meth c H' _ lsM ⟨X.1, X.2.1, ar_put (v := .int v) X.1.2.2.2.2.2.2.2.2 X.2.2.1 hk (by decide) (by decide) rfl fv_sI_ne (fun j => fv_sI (t := 0) (Or.inl rfl) 0 j (fun _ => rfl)) e1 z oq, X.2.2.2.1.put z oq (Nat.le_add_right _ _), X.2.2.2.2⟩
theorem P_last {x : Nat} {i : Int32} {v : Int64} (hd : decode (mC m) pc = .ok (.lastore, 1)) (hk : kd0 x = 21) (hn : x < nx M) (hi : ¬ (i < 0 ∨ ln0 x ≤ i.toNatClampNeg)) (h : PW G d m (pc + 1) ls st (sL M x i.toNatClampNeg v) nc ns Q) : PW G d m pc ls (.long v :: .int i :: .ref x :: st) M nc ns Q := by
  intro p e R s mid args below meth c H locs lsM X
  obtain ⟨hx, a1, a2⟩ := arr_at X.1.2.2.2.2.2.2.2.2 X.2.2.1 hk (by decide) (by decide) hn
  show W p (gl G) e R s mid args below meth c H locs nc ns _ (F0 mid pc lsM (.long v :: .int i :: cr G x :: st.map (cv G)))
  rw [cr_lt hx]
  refine W.last X.1.1 X.1.2.1 a1 a2 (fun q => by cases q) (by rw [arrV_size]; exact hi) rfl rfl hd fun H' e1 z oq => ?_
  exact h p e R s mid args below meth c H' _ lsM ⟨X.1, X.2.1, ar_put (v := .long v) X.1.2.2.2.2.2.2.2.2 X.2.2.1 hk (by decide) (by decide) rfl fv_sL_ne (fun j => fv_sL 1 j (fun _ => rfl)) e1 z oq, X.2.2.2.1.put z oq (Nat.le_add_right _ _), X.2.2.2.2⟩
theorem P_aast {x : Nat} {i : Int32} {v : Nat} (hd : decode (mC m) pc = .ok (.aastore, 1)) (hk : kd0 x = 24) (hn : x < nx M) (hi : ¬ (i < 0 ∨ ln0 x ≤ i.toNatClampNeg)) (hkv : kd0 v = 9) (hvn : v < nx M) (h : PW G d m (pc + 1) ls st (sR M x i.toNatClampNeg v) nc ns Q) : PW G d m pc ls (.ref v :: .int i :: .ref x :: st) M nc ns Q := by
  intro p e R s mid args below meth c H locs lsM X
  have hs := X.1.2.2.2.2.2.2.2.2
  obtain ⟨hx, a1, a2⟩ := arr_at hs X.2.2.1 hk (by decide) (by decide) hn
  have hv9 : v < 999 := kd_lt hkv (by decide)
  show W p (gl G) e R s mid args below meth c H locs nc ns _ (F0 mid pc lsM (cr G v :: .int i :: cr G x :: st.map (cv G)))
  rw [cr_lt hx, cr_lt hv9]
  have hlt : i.toNatClampNeg < ln0 x := Nat.not_le.mp fun q => hi (Or.inr q)
  have h0 : ¬ i < 0 := fun q => hi (Or.inl q)
  obtain ⟨cellV, g1, g2, g3, -⟩ := (X.2.2.1.2.2 v hvn).1 8 _ hkv rfl
  have hcls := (hs.1 8 _ rfl).2
  obtain ⟨kA, comp, k1, k2, k3, -⟩ := (hs.2.1 24 (by decide) (by decide)).2
  have hcomp : comp = gdC G 8 := Option.some.inj (k3.symm.trans hcls.1)
  subst hcomp
  obtain ⟨kC, hkC, -⟩ := hcls.2
  refine W.aast X.1.1 X.1.2.1 a1 (fun q h => by cases h) (fun h => by cases h) k1 k2 rfl hkC ⟨h0, by rw [arrV_size]; exact hlt⟩ g1 (fun q h => by rw [g3] at h; cases h) (by rw [g2]; exact hkC) (by rw [g2]; exact va_assign hcls) rfl rfl hd fun H' e1 z oq => ?_
  exact h p e R s mid args below meth c H' _ lsM ⟨X.1, X.2.1, ar_put (v := .ref v) hs X.2.2.1 hk (by decide) (by decide) rfl fv_sR_ne (fun j => fv_sR 2 j (fun _ => rfl)) (by rw [e1]; show _ = some (Cell.setSlot _ _ (cr G v)); rw [cr_lt hv9]) z oq, X.2.2.2.1.put z oq (Nat.le_add_right _ _), X.2.2.2.2⟩
theorem P_alen {x k : Nat} {v : Int32} (hd : decode (mC m) pc = .ok (.arraylength, 1)) (hk : kd0 x = k) (h1 : 20 ≤ k) (h2 : k ≤ 24) (hn : x < nx M) (hv : Int32.ofNat (ln0 x) = v) (h : PW G d m (pc + 1) ls (.int v :: st) M nc ns Q) : PW G d m pc ls (.ref x :: st) M nc ns Q := by
  intro p e R s mid args below meth c H locs lsM X
  obtain ⟨hx, a1, a2⟩ := arr_at X.1.2.2.2.2.2.2.2.2 X.2.2.1 hk h1 h2 hn
  show W p (gl G) e R s mid args below meth c H locs nc ns _ (F0 mid pc lsM (cr G x :: st.map (cv G)))
  rw [cr_lt hx]
  exact W.alen X.1.1 X.1.2.1 a1 a2 (by rw [arrV_size]; exact hv) rfl rfl hd (h p e R s mid args below meth c H locs lsM X)
/-- the script -/
theorem P_slen {v : Int32} (hd : decode (mC m) pc = .ok (.arraylength, 1)) (hv : nI (gLn G) = v) (h : PW G d m (pc + 1) ls (.int v :: st) M nc ns Q) : PW G d m pc ls (.ref 1000 :: st) M nc ns Q := by
  intro p e R s mid args below meth c H locs lsM X
  have hs := X.1.2.2.2.2.2.2.2.2
  subst hv
  exact va_slen X.1.1 X.1.2.1 (A := gA G) hs.2.2.2.2.2.2.1 (Nat.lt_of_lt_of_le hs.2.2.2.2.2.1 hs.2.2.2.2.1) (Nat.not_le.mpr hs.2.2.2.2.2.1) X.2.2.2.1 hd (h p e R s mid args below meth c H locs lsM X)
theorem P_sld {i : Int32} (hd : decode (mC m) pc = .ok (.iaload, 1)) (hi : ¬ (i < 0 ∨ gLn G ≤ i.toNatClampNeg)) (h : PW G d m (pc + 1) ls (.int (gxs G i.toNatClampNeg) :: st) M nc ns Q) : PW G d m pc ls (.int i :: .ref 1000 :: st) M nc ns Q := by
  intro p e R s mid args below meth c H locs lsM X
  have hs := X.1.2.2.2.2.2.2.2.2
  exact va_sld X.1.1 X.1.2.1 (A := gA G) hs.2.2.2.2.2.2.1 (Nat.lt_of_lt_of_le hs.2.2.2.2.2.1 hs.2.2.2.2.1) (Nat.not_le.mpr hs.2.2.2.2.2.1) X.2.2.2.1 hi hd (h p e R s mid args below meth c H locs lsM X)
/-- the two texts -/
theorem P_ldcS {idx i : Nat} {tx : String} (hd : decode (mC m) pc = .ok (.ldc idx, 2)) (hm : (mN m).cls = "CordLoft$Tokens") (hi : (idx = 85 ∧ i = 0) ∨ (idx = 72 ∧ i = 1)) (h : PW G d m (pc + 2) ls (.ref (1001 + i) :: st) M nc ns Q) : PW G d m pc ls st M nc ns Q := by
  intro p e R s mid args below meth c H locs lsM X
  have hs := X.1.2.2.2.2.2.2.2.2
  have ho := X.1.2.2.2.2.2.1
  rw [hm] at ho
  rcases hi with ⟨rfl, rfl⟩ | ⟨rfl, rfl⟩
  · exact va_ldcS X.1.1 X.1.2.1 ho hs.2.2.2.2.2.2.2.1 hd (h p e R s mid args below meth c H locs lsM X)
  · exact va_ldcS X.1.1 X.1.2.1 ho hs.2.2.2.2.2.2.2.2.1 hd (h p e R s mid args below meth c H locs lsM X)
theorem kS {i : Nat} (hi : i < 2) : cr G (1001 + i) = .ref (gaK G i) ∧ cr G (1003 + i) = .ref (gaV G i) := by
  rcases (show i = 0 ∨ i = 1 by omega) with rfl | rfl <;> exact ⟨rfl, rfl⟩
theorem vS_at {s : State} {H : Heap} {locs : List Loc} (hs : SW G s) (hS : va_S (gA G) s.heap H locs) : va_S (gA G) s.heap H locs := hS
theorem P_getCoder {idx i : Nat} (hd : decode (mC m) pc = .ok (.getfield idx, 3)) (hi : i < 2) (hl : Cond.fieldLink (mN m).cls idx "java/lang/String" "coder" "B" ∈ lw_tbl) (h : PW G d m (pc + 3) ls (.int 0 :: st) M nc ns Q) : PW G d m pc ls (.ref (1001 + i) :: st) M nc ns Q := by
  intro p e R s mid args below meth c H locs lsM X
  have hs := X.1.2.2.2.2.2.2.2.2
  have hE := (hs.2.2.2.2.2.2.2.2.2.1.1 i hi).2.1
  show W p (gl G) e R s mid args below meth c H locs nc ns _ (F0 mid pc lsM (cr G (1001 + i) :: st.map (cv G)))
  rw [(kS hi).1]
  exact vk_getf X.1.1 X.1.2.1 hE X.2.2.2.1 X.1.2.2.2.2.2.1 (X.1.2.2.2.2.2.2.1 _ hl rfl) (fun _ q => q) hd (h p e R s mid args below meth c H locs lsM X)
theorem P_getValue {idx i : Nat} (hd : decode (mC m) pc = .ok (.getfield idx, 3)) (hi : i < 2) (hl : Cond.fieldLink (mN m).cls idx "java/lang/String" "value" "[B" ∈ lw_tbl) (h : PW G d m (pc + 3) ls (.ref (1003 + i) :: st) M nc ns Q) : PW G d m pc ls (.ref (1001 + i) :: st) M nc ns Q := by
  intro p e R s mid args below meth c H locs lsM X
  have hs := X.1.2.2.2.2.2.2.2.2
  have hE := (hs.2.2.2.2.2.2.2.2.2.1.1 i hi).2.2.1
  have h2 := h p e R s mid args below meth c H locs lsM X
  have e2 : List.map (cv G) (Value.ref (1003 + i) :: st) = .ref (gaV G i) :: st.map (cv G) := by rw [← (kS (G := G) hi).2]; rfl
  rw [e2] at h2
  show W p (gl G) e R s mid args below meth c H locs nc ns _ (F0 mid pc lsM (cr G (1001 + i) :: st.map (cv G)))
  rw [(kS hi).1]
  exact vk_getf X.1.1 X.1.2.1 hE X.2.2.2.1 X.1.2.2.2.2.2.1 (X.1.2.2.2.2.2.2.1 _ hl rfl) (fun _ q => q) hd h2
theorem P_xlen {i : Nat} {v : Int32} (hd : decode (mC m) pc = .ok (.arraylength, 1)) (hi : i < 2) (hv : Int32.ofNat (([144, 11] : List Nat).getD i 0) = v) (h : PW G d m (pc + 1) ls (.int v :: st) M nc ns Q) : PW G d m pc ls (.ref (1003 + i) :: st) M nc ns Q := by
  intro p e R s mid args below meth c H locs lsM X
  have hs := X.1.2.2.2.2.2.2.2.2
  have hE := (hs.2.2.2.2.2.2.2.2.2.1.1 i hi).2.2.2
  show W p (gl G) e R s mid args below meth c H locs nc ns _ (F0 mid pc lsM (cr G (1003 + i) :: st.map (cv G)))
  rw [(kS hi).2]
  exact va_tlen X.1.1 X.1.2.1 hE X.2.2.2.1 hv hd (h p e R s mid args below meth c H locs lsM X)
theorem P_xald {i : Nat} {j : Int32} (hd : decode (mC m) pc = .ok (.baload, 1)) (hi : i < 2) (hj : ¬ (j < 0 ∨ ([144, 11] : List Nat).getD i 0 ≤ j.toNatClampNeg)) (h : PW G d m (pc + 1) ls (.int ((([sbyt0, sbyt1] : List (List Int32)).getD i []).getD j.toNatClampNeg 0) :: st) M nc ns Q) : PW G d m pc ls (.int j :: .ref (1003 + i) :: st) M nc ns Q := by
  intro p e R s mid args below meth c H locs lsM X
  have hs := X.1.2.2.2.2.2.2.2.2
  have hE := (hs.2.2.2.2.2.2.2.2.2.1.1 i hi).2.2.2
  show W p (gl G) e R s mid args below meth c H locs nc ns _ (F0 mid pc lsM (.int j :: cr G (1003 + i) :: st.map (cv G)))
  rw [(kS hi).2]
  exact va_tb X.1.1 X.1.2.1 hE X.2.2.2.1 hj rfl hd (h p e R s mid args below meth c H locs lsM X)
theorem P_getCompact {idx : Nat} (hd : decode (mC m) pc = .ok (.getstatic idx, 3)) (hl : Cond.fieldLink (mN m).cls idx "java/lang/String" "COMPACT_STRINGS" "Z" ∈ lw_tbl) (h : PW G d m (pc + 3) ls (.int 1 :: st) M nc ns Q) : PW G d m pc ls st M nc ns Q :=
  fun p e R s mid args below meth c H locs lsM X => va_gets X.1.1 X.1.2.1 X.1.2.2.2.2.2.2.2.2.2.2.2.2.2.2.2.2.2.2.1 X.2.2.2.1 X.1.2.2.2.2.2.1 (X.1.2.2.2.2.2.2.1 _ hl rfl) (fun _ q => q) hd (h p e R s mid args below meth c H locs lsM X)
theorem P_getFormatter {idx : Nat} (hd : decode (mC m) pc = .ok (.getstatic idx, 3)) (hl : Cond.fieldLink (mN m).cls idx "jdk/internal/util/Preconditions" "SIOOBE_FORMATTER" "Ljava/util/function/BiFunction;" ∈ lw_tbl) (h : PW G d m (pc + 3) ls (.ref 1005 :: st) M nc ns Q) : PW G d m pc ls st M nc ns Q :=
  fun p e R s mid args below meth c H locs lsM X => va_gets X.1.1 X.1.2.1 X.1.2.2.2.2.2.2.2.2.2.2.2.2.2.2.2.2.2.2.2.1 X.2.2.2.1 X.1.2.2.2.2.2.1 (X.1.2.2.2.2.2.2.1 _ hl rfl) (fun _ q => q) hd (h p e R s mid args below meth c H locs lsM X)
end ARR
