section NEW
variable {G : GT} {d m pc : Nat} {ls st : List Value} {M M' : AM} {nc ns : Nat} {Q : AM → Option Value → Prop}
theorem fv_sN_ne : ∀ c t j, c ≠ nx M → fv (sN M) c t j = fv M c t j := by
  intro c t j h
  have h' : ¬ c = M.2.2.2 := h
  have e1 : gI (sN M) c j = gI M c j := by simp [gI, sN, h']
  have e2 : gL (sN M) c j = gL M c j := by simp [gL, sN, h']
  have e3 : gR (sN M) c j = gR M c j := by simp [gR, sN, h']
  unfold fv
  split <;> simp only [e1, e2, e3]
theorem fv_sN (t j : Nat) : fv (sN M) (nx M) t j = match t with | 0 => .int 0 | 1 => .long 0 | 2 => .ref 999 | _ => .int 0 := by
  have e1 : gI (sN M) (nx M) j = 0 := by simp [gI, sN, nx]
  have e2 : gL (sN M) (nx M) j = 0 := by simp [gL, sN, nx]
  have e3 : gR (sN M) (nx M) j = 999 := by simp [gR, sN, nx]
  unfold fv
  split <;> simp only [e1, e2, e3]
theorem def_fc {ty : FieldType} (h : fcode ty < 4) (j : Nat) : defaultValue ty = cv G (fv (sN M) (nx M) (fcode ty) j) := by
  rw [fv_sN]
  cases ty <;> first | rfl | (simp [fcode] at h)
theorem WR.grow {H H' : Heap} (h : WR G M H) (hx : nx M < 138) (hsz : H'.size = H.size + 1) (ho : ∀ q, q < H.size → H'[q]? = H[q]?) (hc : cellAt G (sN M) (nx M) H') : WR G (sN M) H' := by
  refine ⟨by rw [hsz, h.1]; show _ = gbase G + (nx M + 1); omega, by show nx M + 1 ≤ 138; omega, fun c hcn => ?_⟩
  have hcn' : c < nx M + 1 := hcn
  by_cases hcx : c = nx M
  · subst hcx; exact hc
  · have hlt : c < nx M := by omega
    have h1 := h.2.2 c hlt
    have hq : gbase G + c < H.size := by rw [h.1]; omega
    refine ⟨fun ci q hk hq' => ?_, fun a b => ?_⟩
    · refine ((h1.1 ci q hk hq').kept (ho _ hq)).to (fun k _ => ?_)
      rw [fv_sN_ne c _ k hcx]
    · rw [ho _ hq, h1.2 a b]
      congr 1
      congr 1
      funext j
      rw [fv_sN_ne c _ j hcx]
theorem va_S.grow {A : Nat → Prop} {H0 H H' : Heap} {locs : List Loc} (h : va_S A H0 H locs) (hsz : H'.size = H.size + 1) (ho : ∀ q, q < H.size → H'[q]? = H[q]?) : va_S A H0 H' locs :=
  ⟨by rw [hsz]; have := h.1; omega, fun q h1 h2 => (ho q (Nat.lt_of_lt_of_le h1 h.1)).trans (h.2.1 q h1 h2), h.2.2⟩
/-- an object is made: it is the next cell -/
theorem P_new {idx ci : Nat} {q : vw_C} (hd : decode (mC m) pc = .ok (.new idx, 3)) (hq : vwCl[ci]? = some q) (hw1 : Cond.classLink (mN m).cls idx q.1 ∈ lw_tbl) (hw2 : Cond.instantiable q.1 q.2.2 ∈ lw_tbl) (hw3 : Cond.initialized q.1 ∈ lw_tbl) (hk : kd0 (nx M) = ci + 1) (hx : nx M < 138) (hnc : nc + 1 ≤ mcT m) (hns : ns + q.2.2 ≤ msT m)
    (h : PW G d m (pc + 3) ls (.ref (nx M) :: st) (sN M) (nc + 1) (ns + q.2.2) Q) : PW G d m pc ls st M nc ns Q := by
  intro p e R s mid args below meth c H locs lsM X
  have hts := X.1.2.2.2.2.2.2.1
  have hs := X.1.2.2.2.2.2.2.2.2
  have hKn := hs.1 ci q hq
  refine W.newcK X.1.1 X.1.2.1 X.1.2.2.2.2.2.1 (hts _ hw1 rfl) (hts _ hw2 rfl) (hts _ hw3 rfl) rfl hd (by rw [X.2.1.2.2.1]; exact hnc) (by rw [X.2.1.2.2.2]; exact hns) hKn.2.1 (h := gbase G + nx M) X.2.2.1.1 fun H1 kC hkC e1 z1 o1 => ?_
  have hsz : H1.size = H.size + 1 := by rw [z1, X.2.2.1.1]
  have ho : ∀ q, q < H.size → H1[q]? = H[q]? := fun q hq => o1 q (by rw [← X.2.2.1.1]; exact hq)
  have h2 := h p e R s mid args below meth c H1 locs lsM ⟨X.1, X.2.1, X.2.2.1.grow hx hsz ho ⟨fun ci' q' hk' hq' => ?_, fun a b => ?_⟩, X.2.2.2.1.grow hsz ho, X.2.2.2.2⟩
  · have e2 : List.map (cv G) (Value.ref (nx M) :: st) = .ref (gbase G + nx M) :: st.map (cv G) := by
      show cr G (nx M) :: _ = _
      rw [cr_lt (by omega)]
    rw [e2] at h2
    exact h2
  · have hci : ci' = ci := by omega
    subst hci
    cases hq.symm.trans hq'
    exact (u_born (tyOf ci') (gw_of hts) (cl_gw hq) hKn hkC e1 (cl_ty ci' q hq)).to (fun k hkN => def_fc (cl_fc ci' q hq k hkN) k)
  · have := cl_lt ci q hq
    omega
theorem P_newarr {atype : ArrayType} {n : Int32} {N k : Nat} (hd : decode (mC m) pc = .ok (.newarray atype, 2)) (hw : Cond.arrayClass (newarray.typeOf atype) ∈ lw_tbl) (hty : newarray.typeOf atype = aty k) (h1 : 20 ≤ k) (h2 : k ≤ 23) (hn0 : ¬ n < 0) (hN : n.toNatClampNeg = N) (hb : N * componentBytes (newarray.typeOf atype) ≤ 536870912) (hk : kd0 (nx M) = k) (hl : ln0 (nx M) = N) (hx : nx M < 138) (hnc : nc + 1 ≤ mcT m) (hns : ns + N ≤ msT m)
    (h : PW G d m (pc + 2) ls (.ref (nx M) :: st) (sN M) (nc + 1) (ns + N) Q) : PW G d m pc ls (.int n :: st) M nc ns Q := by
  intro p e R s mid args below meth c H locs lsM X
  have hts := X.1.2.2.2.2.2.2.1
  have hs := X.1.2.2.2.2.2.2.2.2
  refine va_newaK X.1.1 X.1.2.1 (hts _ hw rfl) rfl hd rfl hn0 hN hb (by rw [X.2.1.2.2.1]; exact hnc) (by rw [X.2.1.2.2.2]; exact hns) (h := gbase G + nx M) X.2.2.1.1 fun H1 cA e1 z1 o1 hAr hNm => ?_
  have hsz : H1.size = H.size + 1 := by rw [z1, X.2.2.1.1]
  have ho : ∀ q, q < H.size → H1[q]? = H[q]? := fun q hq => o1 q (by rw [← X.2.2.1.1]; exact hq)
  have hcA : cA = gdA G k := by
    have hr := (hs.2.1 k h1 (by omega)).2
    rw [hty] at hNm
    have : s.vm.findClass ("[" ++ (aty k).toString) = some (gdA G k) := by
      rcases (show k = 20 ∨ k = 21 ∨ k = 22 ∨ k = 23 by omega) with rfl | rfl | rfl | rfl <;> exact hr
    exact Option.some.inj (hNm.symm.trans this)
  have h3 := h p e R s mid args below meth c H1 locs lsM ⟨X.1, X.2.1, X.2.2.1.grow hx hsz ho ⟨fun ci' q' hk' hq' => ?_, fun a b => ?_⟩, X.2.2.2.1.grow hsz ho, X.2.2.2.2⟩
  · have e2 : List.map (cv G) (Value.ref (nx M) :: st) = .ref (gbase G + nx M) :: st.map (cv G) := by
      show cr G (nx M) :: _ = _
      rw [cr_lt (by omega)]
    rw [e2] at h3
    exact h3
  · have := cl_lt ci' q' hq'
    omega
  · rw [e1, hk, hl, hcA, hty]
    congr 2
    funext j
    rw [fv_sN]
    rcases (show k = 20 ∨ k = 21 ∨ k = 22 ∨ k = 23 by omega) with rfl | rfl | rfl | rfl <;> rfl
theorem P_newref {idx : Nat} {n : Int32} {N : Nat} (hd : decode (mC m) pc = .ok (.anewarray idx, 3)) (hw : Cond.classLink (mN m).cls idx "CordLoft$State" ∈ lw_tbl) (hn0 : ¬ n < 0) (hN : n.toNatClampNeg = N) (hb : N * 4 ≤ 536870912) (hk : kd0 (nx M) = 24) (hl : ln0 (nx M) = N) (hx : nx M < 138) (hnc : nc + 1 ≤ mcT m) (hns : ns + N ≤ msT m)
    (h : PW G d m (pc + 3) ls (.ref (nx M) :: st) (sN M) (nc + 1) (ns + N) Q) : PW G d m pc ls (.int n :: st) M nc ns Q := by
  intro p e R s mid args below meth c H locs lsM X
  have hts := X.1.2.2.2.2.2.2.1
  have hs := X.1.2.2.2.2.2.2.2.2
  subst hN
  refine W.anew X.1.1 X.1.2.1 X.1.2.2.2.2.2.1 (hts _ hw rfl) (va_AO.use hs.2.2.1) rfl hd rfl hn0 hb (by rw [X.2.1.2.2.1]; exact hnc) (by rw [X.2.1.2.2.2]; exact hns) fun cA kA comp f1 f2 f3 f4 => ?_
  have hcA : cA = gdA G 24 := by
    obtain ⟨_, _, -, -, -, h4⟩ := (hs.2.1 24 (by decide) (by decide)).2
    exact Option.some.inj (f1.symm.trans h4)
  generalize hH1 : H.push ({ cls := cA, slots := Array.replicate n.toNatClampNeg .null, vm := .none } : Cell) = H1
  have hsz : H1.size = H.size + 1 := by rw [← hH1]; simp
  have ho : ∀ q, q < H.size → H1[q]? = H[q]? := fun q hq => by rw [← hH1, Array.getElem?_push, if_neg (Nat.ne_of_lt hq)]
  have e1 : H1[gbase G + nx M]? = some (arrV cA n.toNatClampNeg (fun _ => .null)) := by rw [← X.2.2.1.1, ← hH1, ← arrV_new]; simp
  have h3 := h p e R s mid args below meth c H1 locs lsM ⟨X.1, X.2.1, X.2.2.1.grow hx hsz ho ⟨fun ci' q' hk' hq' => ?_, fun a b => ?_⟩, X.2.2.2.1.grow hsz ho, X.2.2.2.2⟩
  · have e2 : List.map (cv G) (Value.ref (nx M) :: st) = .ref H.size :: st.map (cv G) := by
      show cr G (nx M) :: _ = _
      rw [cr_lt (by omega), X.2.2.1.1]
    rw [e2] at h3
    exact h3
  · have := cl_lt ci' q' hq'
    omega
  · rw [e1, hk, hl, hcA]
    congr 2
    funext j
    rw [fv_sN]
    rfl
/-- returns -/
theorem P_iret {v : Int32} {ty : FieldType} (hd : decode (mC m) pc = .ok (.ireturn, 1)) (hr : mR m = some ty) (hn : narrow ty (.int v) = .int v) (hnc : nc ≤ mcT m) (hns : ns ≤ msT m) (hq : Q M (some (.int v))) : PW G d m pc ls [.int v] M nc ns Q := by
  intro p e R s mid args below meth c H locs lsM X
  refine W.widen hnc hns ?_
  have hlk : meth.locks = false := X.1.2.2.2.2.1
  exact W.zret X.1.1 X.1.2.1 (X.1.2.2.2.1.trans hr) hn (fun t ht hW => ⟨⟨M, _, hq, rfl, by rw [ht]; exact X.2.2.1⟩, X.2.2.2.1.F ht⟩) X.2.2.2.1.2.2 hd hlk
theorem P_ret (hd : decode (mC m) pc = .ok (.return_, 1)) (hr : mR m = none) (hnc : nc ≤ mcT m) (hns : ns ≤ msT m) (hq : Q M none) : PW G d m pc ls [] M nc ns Q := by
  intro p e R s mid args below meth c H locs lsM X
  refine W.widen hnc hns ?_
  have hlk : meth.locks = false := X.1.2.2.2.2.1
  exact W.vret X.1.1 X.1.2.1 (X.1.2.2.2.1.trans hr) (fun t ht hW => ⟨⟨M, _, hq, rfl, by rw [ht]; exact X.2.2.1⟩, X.2.2.2.1.F ht⟩) X.2.2.2.1.2.2 hd hlk
theorem P_aret {v : Nat} {n : String} (hd : decode (mC m) pc = .ok (.areturn, 1)) (hr : mR m = some (.object n)) (hnc : nc ≤ mcT m) (hns : ns ≤ msT m) (hq : Q M (some (.ref v))) : PW G d m pc ls [.ref v] M nc ns Q := by
  intro p e R s mid args below meth c H locs lsM X
  refine W.widen hnc hns ?_
  have hlk : meth.locks = false := X.1.2.2.2.2.1
  exact W.aret X.1.1 X.1.2.1 (X.1.2.2.2.1.trans hr) (Or.inl ⟨_, rfl⟩) (cr_case X.1.2.2.2.2.2.2.2.2 v) (fun t ht hW => ⟨⟨M, _, hq, rfl, by rw [ht]; exact X.2.2.1⟩, X.2.2.2.1.F ht⟩) X.2.2.2.1.2.2 hd hlk
theorem P_objInit {idx x : Nat} (hd : decode (mC m) pc = .ok (.invokespecial idx, 3)) (hl : Cond.methodLink (mN m).cls idx Lib.objectInit ∈ lw_tbl) (hx : x < 999) (h1 : 1 ≤ d) (hst : (st.map fun v => v.category).sum ≤ 8) (h : PW G d m (pc + 3) ls st M nc ns Q) : PW G d m pc ls (.ref x :: st) M nc ns Q := by
  intro p e R s mid args below meth c H locs lsM X
  have hts := X.1.2.2.2.2.2.2.1
  have hs := X.1.2.2.2.2.2.2.2.2
  show W p (gl G) e R s mid args below meth c H locs nc ns _ (F0 mid pc lsM (cr G x :: st.map (cv G)))
  rw [cr_lt hx]
  have hsum : ((st.map (cv G)).map fun v => v.category).sum = (st.map fun v => v.category).sum := by
    rw [List.map_map]
    congr 1
    exact List.map_congr_left (fun v _ => cv_cat hs v)
  exact W.objInit X.1.1 X.1.2.1 X.1.2.2.2.2.2.1 (hts _ hl rfl) (hts _ (by decide +kernel) rfl) (hts (.code Lib.objectInit ⟨#[0xb1]⟩ 1 none) (by decide +kernel) rfl) rfl (X.2.2.2.2.1.trans X.1.2.2.1.symm) rfl hd (by have := X.2.1.1; omega) (by rw [hsum]; have := X.2.1.2.1; show 2 * 0 + _ + 12 ≤ _; omega) (h p e R s mid args below meth c H locs lsM X)
end NEW
