/-! calls: a method's PW at its entry is its contract -/
def MOK (m : Nat) : Prop := Cond.code (mN m) (mC m) (mL m) (mR m) ∈ lw_tbl ∧ plainName (mN m).cls = true ∧ ((mN m).cls ≠ "java/lang/invoke/MethodHandle" ∧ (mN m).cls ≠ "java/lang/invoke/VarHandle") ∧ Cond.initialized (mN m).cls ∈ lw_tbl ∧ mL m ≤ 41
def wsM (m : Nat) : List Cond := Cond.code (mN m) (mC m) (mL m) (mR m) :: gw
def rmT (d m : Nat) : Room := { frames := d, cells := mcT m, slots := msT m, locals := 60 * d }
def slo : List Value → List Value
  | [] => []
  | v :: r => if v.category = 2 then v :: ux :: slo r else v :: slo r
def ent (n : Nat) (as : List Value) : List Value := slo as ++ List.replicate (n - (slo as).length) ux
theorem SW.move {G : GT} {u U : State} (h : SW G u) (hvm : u.vm.Alike U.vm) (hsz : u.heap.size ≤ U.heap.size) (hq : ∀ q : Nat, q < u.heap.size → ¬ gA G q → U.heap[q]? = u.heap[q]?) (hN : ∀ a i x h, va_Nw (.methodLinkNest a i x h) u → va_Nw (.methodLinkNest a i x h) U) (hR : ∀ own k tx a, vk_R own k tx a u → vk_R own k tx a U) : SW G U := by
  obtain ⟨h1, h2, h3, h4, h5, h6, h7, h8, h9, h10, h11, h12, h13⟩ := h
  refine ⟨fun ci q hc => u_Kn_moved hvm (h1 ci q hc), fun k a b => ⟨arrOfT_moved hvm (h2 k a b).1, (h2 k a b).2.moved hvm⟩, h3.moved hvm, fun a i x h hw => hN _ _ _ _ (h4 a i x h hw), Nat.le_trans h5 hsz, h6, (h7.moved hvm).kept (hq _ (Nat.lt_of_lt_of_le h6 h5) (Nat.not_le.mpr h6)), hR _ _ _ _ h8, hR _ _ _ _ h9, (h10.kept hq).moved hvm, (h11.kept hq).moved hvm, (h12.kept hq).moved hvm, h13⟩
section CALLS
variable {G : GT} {d m pc : Nat} {ls st as : List Value} {M M' : AM} {nc ns : Nat} {Q Q' : AM → Option Value → Prop}
def Pcc (G : GT) (as : List Value) (M : AM) : Array Value → State → Prop := fun v U => v = (as.map (cv G)).toArray ∧ SW G U ∧ WR G M U.heap
theorem Pcc_blind : FrameBlind (Pcc G as M) := by
  intro a U g mk h
  exact ⟨h.1, h.2.1.move (Vm.Alike.refl U.vm) (Nat.le_refl _) (fun _ _ _ => rfl) (fun _ _ _ _ q => va_Nw.same rfl rfl q) (fun _ _ _ _ q => vk_R.same rfl q), h.2.2⟩
theorem Pcc_at {s : State} {H : Heap} {locs : List Loc} (hs : SW G s) (hS : va_S (gA G) s.heap H locs) (hw : WR G M H) : ∀ U : State, U.heap = H → s.WarmedH U.vm → Pcc G as M (as.map (cv G)).toArray U := by
  intro U hU hW
  subst hU
  exact ⟨rfl, hs.move hW.alike hS.1 hS.2.1 (fun _ _ _ _ q => va_Nw.warmM hW q) (fun _ _ _ _ q => vk_R.warm hW q), hw⟩
theorem slo_sl {s : State} (hs : SW G s) : ∀ (as : List Value), (lg_sl (as.map (cv G))).length = (slo as).length ∧ ∀ (i : Nat) (v : Value), (slo as)[i]? = some v → v ≠ ux → (lg_sl (as.map (cv G)))[i]? = some (Slot.val (cv G v)) := by
  intro as
  induction as with
  | nil => exact ⟨rfl, fun i v h => by simp [slo] at h⟩
  | cons a r ih =>
    have hc := cv_cat hs a
    by_cases h2 : a.category = 2
    · have e : lg_sl ((a :: r).map (cv G)) = .val (cv G a) :: .second :: lg_sl (r.map (cv G)) := by
        simp [lg_sl, hc, h2]
      rw [e, slo, if_pos h2]
      refine ⟨by simp [ih.1], fun i v h hu => ?_⟩
      match i, h with
      | 0, h => cases h; rfl
      | 1, h => cases h; exact absurd rfl hu
      | i + 2, h => exact ih.2 i v h hu
    · have e : lg_sl ((a :: r).map (cv G)) = .val (cv G a) :: lg_sl (r.map (cv G)) := by
        simp [lg_sl, hc, h2]
      rw [e, slo, if_neg h2]
      refine ⟨by simp [ih.1], fun i v h hu => ?_⟩
      match i, h with
      | 0, h => cases h; rfl
      | i + 1, h => exact ih.2 i v h hu
theorem ent_LV {s : State} (hs : SW G s) {n : Nat} (hl : (slo as).length ≤ n) : LV G ((lg_sl (as.map (cv G)) ++ List.replicate (n - (lg_sl (as.map (cv G))).length) Slot.unset).toArray) n (ent n as) := by
  obtain ⟨h1, h2⟩ := slo_sl hs as
  have h3 := lv_entry (as.map (cv G)) (n := n) (by rw [h1]; exact hl)
  refine ⟨h3.1, h3.2.1, by simp [ent]; omega, fun i v hv hu => ?_⟩
  unfold ent at hv
  by_cases hi : i < (slo as).length
  · rw [List.getElem?_append_left hi] at hv
    have := h2 i v hv hu
    rw [List.getElem?_toArray, List.getElem?_append_left (by rw [h1]; exact hi)]
    exact this
  · rw [List.getElem?_append_right (by omega), List.getElem?_replicate] at hv
    split at hv
    · cases hv; exact absurd rfl hu
    · cases hv
theorem PW.met (hm : MOK m) (hl : (slo as).length ≤ mL m) (h : PW G d m 0 (ent (mL m) as) [] M 0 0 Q) : Met (gl G) (mN m) (wsM m) (rmT d m) (Pcc G as M) (QC G Q) (mcT m) (msT m) (gA G) := by
  refine Met.ofW (cc := mC m) (maxL := mL m) (ret := mR m) hm.2.1 rfl ?_
  intro p e s mid args below meth c s₁ B hml hv
  obtain ⟨rfl, hsw, hwr⟩ := hv
  have hts := atoms_spec (ws := wsM m) B.pre
  rw [lg_entry_eq]
  exact h p e _ s mid _ below meth c s.heap [] _ ⟨⟨B.exec, B.bytes, hml, B.returns, B.notSynchronized, findClass_of_methodNamed B.named, fun w hw hg => hts w (List.mem_cons_of_mem _ (List.mem_filter.mpr ⟨hw, hg⟩)), (name_of_methodNamed B.named B.method).1, hsw⟩, ⟨Nat.le_refl _, Nat.le_refl _, rfl, rfl⟩, hwr, va_S.rf, ent_LV hsw hl⟩
theorem call_go {p : Program} {e : Env} {R : Room} {s : State} {mid : MethodId} {args : Array Value} {below : List Frame} {meth : Method} {c : Code} {H : Heap} {locs : List Loc} {lsM : Array Slot} {mc ms : Nat} {a : Array Value} {stM : List Value} (X : FS G d m ls M p R s mid args meth c H locs lsM) (hr : va_Run p (gl G) e R s mid args below meth c H locs nc ns mc ms (F0 mid pc lsM stM) (st.map (cv G)) (QC G Q' a) (gA G)) (hq : ∀ M' r, Q' M' r → PW G d m (pc + 3) ls (r.toList ++ st) M' (nc + mc) (ns + ms) Q) :
    W p (gl G) e R s mid args below meth c H locs nc ns (MQ below (QC G Q) args s (mcT m) (msT m) (gA G)) (F0 mid pc lsM stM) := by
  intro T hT X'
  obtain ⟨v, st₀, t, T', L, h0, X2, hL, e1, e2, ⟨⟨M', r, hQ, ho, hwr⟩, hz, hk⟩, hst⟩ := hr T hT X'
  rw [h0] at hz hk
  have hv : v = r.map (cv G) := by cases ho; rfl
  have hS := X.2.2.2.1
  have k := hq M' r hQ p e R s mid args below meth c t.heap (locs ++ L) lsM ⟨X.1, X.2.1, hwr, ⟨Nat.le_trans hS.1 hz, fun q h1 h2 => by rw [hk q (Nat.lt_of_lt_of_le h1 hS.1) h2]; exact hS.2.1 q h1 h2, fun q hq => by
      rcases List.mem_append.mp hq with h | h
      · exact hS.2.2 q h
      · exact hL q h⟩, X.2.2.2.2⟩
  have e3 : List.map (cv G) (r.toList ++ st) = v.toList ++ st.map (cv G) := by
    rw [hv, List.map_append]
    cases r <;> rfl
  rw [e3] at k
  obtain ⟨t2, a1, b1⟩ := k T' e1 X2
  exact ⟨t2, hst t2 a1, b1⟩
theorem cat_sum {s : State} (hs : SW G s) (st : List Value) : ((st.map (cv G)).map fun v => v.category).sum = (st.map fun v => v.category).sum := by
  rw [List.map_map]
  congr 1
  exact List.map_congr_left (fun v _ => cv_cat hs v)
theorem gw_good {m : Nat} (hm : MOK m) : GoodIn gw (wsM m) := by
  intro w hw
  rcases List.mem_cons.mp hw with rfl | hw
  · exact ⟨List.mem_filter.mpr ⟨hm.1, rfl⟩, Or.inl rfl⟩
  · exact ⟨hw, good_of_word (List.mem_filter.mp hw).2⟩
def LKB (m idx m' n : Nat) : Prop := Cond.methodLink (mN m).cls idx (mN m') ∈ lw_tbl ∧ (parseMethodDescriptor (mN m').desc).map (fun d => d.parameters.length) = some n
theorem call_B {R : Room} {s : State} {args : Array Value} {m' idx n : Nat} (hw : ∀ w ∈ lw_tbl, goodWord w = true → w.before args s = true) (hm : MOK m') (hl : LKB m idx m' n) (hR : d + 1 ≤ R.frames ∧ 60 * (d + 1) ≤ R.locals) : CallB R s args (mN m).cls idx (mN m') (mC m') (mL m') (mR m') (wsM m') (rmT d m') (mcT m') (msT m') n :=
  callB_of (Ts := gw) n (gw_of hw) (gw_good hm) rfl rfl rfl (hw _ hm.2.2.2.1 rfl) (hw _ hl.1 rfl) ⟨hm.2.2.1.1, hm.2.2.1.2, hl.2⟩ ⟨hR.1, by have := hm.2.2.2.2; show 8 + (mL m' + 11) + 60 * d ≤ _; omega⟩
theorem rev_map {x : Nat} {stk : List Value} (h : stk = as.reverse ++ .ref x :: st) : stk.map (cv G) = (as.map (cv G)).reverse ++ cr G x :: st.map (cv G) := by
  rw [h, List.map_append, List.map_reverse]
  rfl
theorem P_callV {m' idx n x ci : Nat} {stk : List Value} (q : vw_C) (hd : decode (mC m) pc = .ok (.invokevirtual idx, 3)) (hl : LKB m idx m' n) (hi : Cond.instanceMethod (mN m') ∈ lw_tbl) (hsel : Cond.selects q.1 (mN m') (mN m') ∈ lw_tbl) (hm : MOK m') (hn : as.length = n) (hstk : stk = as.reverse ++ .ref x :: st) (hcat : (st.map fun v => v.category).sum ≤ 8) (hq : vwCl[ci]? = some q) (hk : kd0 x = ci + 1) (hx : x < nx M) (hsl : (slo (.ref x :: as)).length ≤ mL m') (hnc : nc + mcT m' ≤ mcT m) (hns : ns + msT m' ≤ msT m)
    (h : PW G d m' 0 (ent (mL m') (.ref x :: as)) [] M 0 0 (fun M' r => PW G (d + 1) m (pc + 3) ls (r.toList ++ st) M' (nc + mcT m') (ns + msT m') Q)) : PW G (d + 1) m pc ls stk M nc ns Q := by
  intro p e R s mid args below meth c H locs lsM X
  have hts := X.1.2.2.2.2.2.2.1
  have hs := X.1.2.2.2.2.2.2.2.2
  have hx9 : x < 999 := kd_lt hk (by have := cl_lt ci q hq; omega)
  rw [rev_map hstk, cr_lt hx9]
  have hrecv : ∃ cell : Cell, H[gbase G + x]? = some cell ∧ cell.vm.isStatics = false ∧ s.vm.findClass q.1 = some cell.cls := by
    obtain ⟨cell, q1, q2, q3, -⟩ := (X.2.2.1.2.2 x hx).1 ci q hk hq
    exact ⟨cell, q1, by rw [q3]; rfl, by rw [q2]; exact (hs.1 ci q hq).2.1⟩
  have eA : (Value.ref (gbase G + x) :: as.map (cv G)) = (Value.ref x :: as).map (cv G) := by
    show _ = cr G x :: _
    rw [cr_lt hx9]
  refine call_go X (va_runV (As := as.map (cv G)) (rest := st.map (cv G)) (Ts := gw) ⟨X.1.1, X.1.2.1, X.1.2.2.1, X.1.2.2.2.2.2.1, gw_of hts⟩ (h.met hm hsl) ⟨call_B hts hm hl ⟨X.2.1.1, X.2.1.2.1⟩, hts _ hi rfl, hts _ hsel rfl⟩ ⟨Pcc_blind, hrecv, ?_⟩ rfl (by rw [List.length_map]; exact hn) X.2.2.2.2.1 rfl (by show 2 * 0 + _ ≤ 8; rw [cat_sum hs]; omega) hd ⟨by rw [X.2.1.2.2.1]; exact hnc, by rw [X.2.1.2.2.2]; exact hns⟩) (fun M' r hq => hq)
  rw [eA]
  exact Pcc_at hs X.2.2.2.1 X.2.2.1
theorem P_callVS {m' idx n i : Nat} {stk : List Value} (hd : decode (mC m) pc = .ok (.invokevirtual idx, 3)) (hl : LKB m idx m' n) (hi : Cond.instanceMethod (mN m') ∈ lw_tbl) (hsel : Cond.selects "java/lang/String" (mN m') (mN m') ∈ lw_tbl) (hm : MOK m') (hn : as.length = n) (hi2 : i < 2) (hstk : stk = as.reverse ++ .ref (1001 + i) :: st) (hcat : (st.map fun v => v.category).sum ≤ 8) (hsl : (slo (.ref (1001 + i) :: as)).length ≤ mL m') (hnc : nc + mcT m' ≤ mcT m) (hns : ns + msT m' ≤ msT m)
    (h : PW G d m' 0 (ent (mL m') (.ref (1001 + i) :: as)) [] M 0 0 (fun M' r => PW G (d + 1) m (pc + 3) ls (r.toList ++ st) M' (nc + mcT m') (ns + msT m') Q)) : PW G (d + 1) m pc ls stk M nc ns Q := by
  intro p e R s mid args below meth c H locs lsM X
  have hts := X.1.2.2.2.2.2.2.1
  have hs := X.1.2.2.2.2.2.2.2.2
  rw [rev_map hstk, (kS hi2).1]
  have hrecv := vk_recv hs.2.2.2.2.2.2.2.2.2.1 hi2 X.2.2.2.1
  have eA : (Value.ref (gaK G i) :: as.map (cv G)) = (Value.ref (1001 + i) :: as).map (cv G) := by
    show _ = cr G (1001 + i) :: _
    rw [(kS hi2).1]
  refine call_go X (va_runV (As := as.map (cv G)) (rest := st.map (cv G)) (Ts := gw) ⟨X.1.1, X.1.2.1, X.1.2.2.1, X.1.2.2.2.2.2.1, gw_of hts⟩ (h.met hm hsl) ⟨call_B hts hm hl ⟨X.2.1.1, X.2.1.2.1⟩, hts _ hi rfl, hts _ hsel rfl⟩ ⟨Pcc_blind, hrecv, ?_⟩ rfl (by rw [List.length_map]; exact hn) X.2.2.2.2.1 rfl (by show 2 * 0 + _ ≤ 8; rw [cat_sum hs]; omega) hd ⟨by rw [X.2.1.2.2.1]; exact hnc, by rw [X.2.1.2.2.2]; exact hns⟩) (fun M' r hq => hq)
  rw [eA]
  exact Pcc_at hs X.2.2.2.1 X.2.2.1
theorem P_callS {m' idx n : Nat} {stk : List Value} (hd : decode (mC m) pc = .ok (.invokestatic idx, 3)) (hl : LKB m idx m' n) (hi : Cond.static (mN m') ∈ lw_tbl) (hm : MOK m') (hn : as.length = n) (hstk : stk = as.reverse ++ st) (hcat : (st.map fun v => v.category).sum ≤ 8) (hsl : (slo as).length ≤ mL m') (hnc : nc + mcT m' ≤ mcT m) (hns : ns + msT m' ≤ msT m)
    (h : PW G d m' 0 (ent (mL m') as) [] M 0 0 (fun M' r => PW G (d + 1) m (pc + 3) ls (r.toList ++ st) M' (nc + mcT m') (ns + msT m') Q)) : PW G (d + 1) m pc ls stk M nc ns Q := by
  intro p e R s mid args below meth c H locs lsM X
  have hts := X.1.2.2.2.2.2.2.1
  have hs := X.1.2.2.2.2.2.2.2.2
  have e1 : stk.map (cv G) = (as.map (cv G)).reverse ++ st.map (cv G) := by rw [hstk, List.map_append, List.map_reverse]
  rw [e1]
  exact call_go X (va_runS (As := as.map (cv G)) (rest := st.map (cv G)) (Ts := gw) ⟨X.1.1, X.1.2.1, X.1.2.2.1, X.1.2.2.2.2.2.1, gw_of hts⟩ (h.met hm hsl) ⟨call_B hts hm hl ⟨X.2.1.1, X.2.1.2.1⟩, hts _ hi rfl⟩ ⟨Pcc_blind, Pcc_at hs X.2.2.2.1 X.2.2.1⟩ rfl (by rw [List.length_map]; exact hn) X.2.2.2.2.1 rfl (by show 2 * 0 + _ ≤ 8; rw [cat_sum hs]; omega) hd ⟨by rw [X.2.1.2.2.1]; exact hnc, by rw [X.2.1.2.2.2]; exact hns⟩) (fun M' r hq => hq)
theorem P_callI {m' idx n x : Nat} {stk : List Value} (hd : decode (mC m) pc = .ok (.invokespecial idx, 3)) (hl : LKB m idx m' n) (hi : Cond.instanceMethod (mN m') ∈ lw_tbl) (hm : MOK m') (hr0 : mR m' = none) (hnm : (mN m').name = "<init>") (hn : as.length = n) (hstk : stk = as.reverse ++ .ref x :: st) (hcat : (st.map fun v => v.category).sum ≤ 8) (hx9 : x < 999) (hsl : (slo (.ref x :: as)).length ≤ mL m') (hnc : nc + mcT m' ≤ mcT m) (hns : ns + msT m' ≤ msT m)
    (h : PW G d m' 0 (ent (mL m') (.ref x :: as)) [] M 0 0 (fun M' r => PW G (d + 1) m (pc + 3) ls (r.toList ++ st) M' (nc + mcT m') (ns + msT m') Q)) : PW G (d + 1) m pc ls stk M nc ns Q := by
  intro p e R s mid args below meth c H locs lsM X
  have hts := X.1.2.2.2.2.2.2.1
  have hs := X.1.2.2.2.2.2.2.2.2
  rw [rev_map hstk, cr_lt hx9]
  have eA : (Value.ref (gbase G + x) :: as.map (cv G)) = (Value.ref x :: as).map (cv G) := by
    show _ = cr G x :: _
    rw [cr_lt hx9]
  have cb := call_B hts hm hl ⟨X.2.1.1, X.2.1.2.1⟩
  rw [hr0] at cb
  refine call_go X (va_runI (As := as.map (cv G)) (rest := st.map (cv G)) (Ts := gw) ⟨X.1.1, X.1.2.1, X.1.2.2.1, X.1.2.2.2.2.2.1, gw_of hts⟩ (h.met hm hsl) ⟨cb, hnm, hts _ hi rfl⟩ ⟨Pcc_blind, ?_⟩ rfl (by rw [List.length_map]; exact hn) X.2.2.2.2.1 rfl (by show 2 * 0 + _ ≤ 8; rw [cat_sum hs]; omega) hd ⟨by rw [X.2.1.2.2.1]; exact hnc, by rw [X.2.1.2.2.2]; exact hns⟩) (fun M' r hq => hq)
  rw [eA]
  exact Pcc_at hs X.2.2.2.1 X.2.2.1
theorem P_callIN {m' idx n x : Nat} {host : String} {stk : List Value} (hd : decode (mC m) pc = .ok (.invokespecial idx, 3)) (hl : Cond.methodLinkNest (mN m).cls idx (mN m') host ∈ lw_tbl) (hpar : (parseMethodDescriptor (mN m').desc).map (fun d => d.parameters.length) = some n) (hi : Cond.instanceMethod (mN m') ∈ lw_tbl) (hm : MOK m') (hr0 : mR m' = none) (hnm : (mN m').name = "<init>") (hn : as.length = n) (hstk : stk = as.reverse ++ .ref x :: st) (hcat : (st.map fun v => v.category).sum ≤ 8) (hx9 : x < 999) (hsl : (slo (.ref x :: as)).length ≤ mL m') (hnc : nc + mcT m' ≤ mcT m) (hns : ns + msT m' ≤ msT m)
    (h : PW G d m' 0 (ent (mL m') (.ref x :: as)) [] M 0 0 (fun M' r => PW G (d + 1) m (pc + 3) ls (r.toList ++ st) M' (nc + mcT m') (ns + msT m') Q)) : PW G (d + 1) m pc ls stk M nc ns Q := by
  intro p e R s mid args below meth c H locs lsM X
  have hts := X.1.2.2.2.2.2.2.1
  have hs := X.1.2.2.2.2.2.2.2.2
  rw [rev_map hstk, cr_lt hx9]
  have eA : (Value.ref (gbase G + x) :: as.map (cv G)) = (Value.ref x :: as).map (cv G) := by
    show _ = cr G x :: _
    rw [cr_lt hx9]
  have cb : va_CN R s args (mN m).cls idx (mN m') host (mC m') (mL m') (mR m') (wsM m') (rmT d m') (mcT m') (msT m') n :=
    va_cnB (Ts := gw) n (gw_of hts) (gw_good hm) rfl rfl rfl (hs.2.2.2.1 _ _ _ _ hl) (hts _ hm.2.2.2.1 rfl) ⟨hm.2.2.1.1, hm.2.2.1.2, hpar⟩ ⟨X.2.1.1, by have := hm.2.2.2.2; have := X.2.1.2.1; show 8 + (mL m' + 11) + 60 * d ≤ _; omega⟩
  rw [hr0] at cb
  refine call_go X (va_runIN (As := as.map (cv G)) (rest := st.map (cv G)) (Ts := gw) ⟨X.1.1, X.1.2.1, X.1.2.2.1, X.1.2.2.2.2.2.1, gw_of hts⟩ (h.met hm hsl) ⟨cb, hnm, hts _ hi rfl⟩ ⟨Pcc_blind, ?_⟩ rfl (by rw [List.length_map]; exact hn) X.2.2.2.2.1 rfl (by show 2 * 0 + _ ≤ 8; rw [cat_sum hs]; omega) hd ⟨by rw [X.2.1.2.2.1]; exact hnc, by rw [X.2.1.2.2.2]; exact hns⟩) (fun M' r hq => hq)
  rw [eA]
  exact Pcc_at hs X.2.2.2.1 X.2.2.1
end CALLS
