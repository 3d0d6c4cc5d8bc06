/-! the memory: reading, writing, making cells -/
def gw : List Cond := lw_tbl.filter goodWord
theorem gw_of {args : Array Value} {s : State} (h : ∀ w ∈ lw_tbl, goodWord w = true → w.before args s = true) : ∀ w ∈ gw, w.before args s = true := fun w hw => h w (List.mem_filter.mp hw).1 (List.mem_filter.mp hw).2
theorem u_lay_good (C : String) (T : u_T) (k : Nat) : goodWord (u_lay C T k) = true := by
  unfold u_lay
  split <;> rfl
theorem cl_gw {ci : Nat} {q : vw_C} (h : vwCl[ci]? = some q) : ∀ w ∈ u_ws q.1 q.2.1 q.2.2, w ∈ gw := by
  intro w hw
  refine List.mem_filter.mpr ⟨cl_ws ci q h w hw, ?_⟩
  obtain ⟨k, -, rfl⟩ := List.mem_map.mp hw
  exact u_lay_good _ _ _
theorem cl_ap {G : GT} {s : State} {args : Array Value} {ci : Nat} {q : vw_C} (hw : ∀ w ∈ lw_tbl, goodWord w = true → w.before args s = true) (hs : SW G s) (hq : vwCl[ci]? = some q) : ∀ x y, x < q.2.2 → y < q.2.2 → x ≠ y → gdI G ci x ≠ gdI G ci y := by
  obtain ⟨C, T, N⟩ := q
  exact va_apart (D := (gdC G, gdI G)) (tys := []) (own := C) (gw_of hw) (cl_gw hq) (tyOf ci) (cl_ty ci _ hq) (cl_nm ci _ hq) ⟨hs.1, fun k q h => by simp at h⟩ hq
theorem kd_lt {c k : Nat} (h : kd0 c = k + 1) (hk : k < 30) : c < 999 := by
  unfold kd0 at h
  rcases Nat.lt_or_ge c 999 with q | q
  · exact q
  · rw [if_neg (by omega)] at h
    repeat' split at h
    all_goals omega
theorem cr_lt {G : GT} {c : Nat} (h : c < 999) : cr G c = .ref (gbase G + c) := if_pos h
theorem fits_cr {G : GT} {s : State} (hs : SW G s) {ty : FieldType} (ht : fcode ty = 2) (x : Nat) : narrow ty (cr G x) = cr G x ∧ fits ty (cr G x) = true := by
  rcases cr_case hs x with h | ⟨a, h⟩ <;> rw [h] <;> cases ty <;> first | exact ⟨rfl, rfl⟩ | cases ht
section MEMO
variable {G : GT} {d m pc : Nat} {ls st : List Value} {M M' : AM} {nc ns : Nat} {Q : AM → Option Value → Prop}
def FOK (own : String) (idx ci k : Nat) : Prop := ∃ q, vwCl[ci]? = some q ∧ k < q.2.2 ∧ Cond.fieldLink own idx (q.2.1 k).1 (q.2.1 k).2.1 (q.2.1 k).2.2.1 ∈ lw_tbl
theorem P_getf {idx ci k x : Nat} (hd : decode (mC m) pc = .ok (.getfield idx, 3)) (hF : FOK (mN m).cls idx ci k) (hk : kd0 x = ci + 1) (hn : x < nx M) (h : PW G d m (pc + 3) ls (fv M x (fcode (tyOf ci k)) k :: st) M nc ns Q) : PW G d m pc ls (.ref x :: st) M nc ns Q := by
  intro p e R s mid args below meth c H locs lsM X
  obtain ⟨q, hq, hkN, hlk⟩ := hF
  have hx : x < 999 := kd_lt hk (by have := cl_lt ci q hq; omega)
  obtain ⟨cell, q1, q2, q3, q4⟩ := (X.2.2.1.2.2 x hn).1 ci q hk hq
  have hts := X.1.2.2.2.2.2.2.1
  obtain ⟨hS, hfc, kC, hkC, hkind⟩ := X.1.2.2.2.2.2.2.2.2.1 ci q hq
  obtain ⟨cf, kf, fi, f, hi, hsl⟩ := hS k hkN
  have hst := (u_facts hfc hkC (u_lays (gw_of hts) (cl_gw hq) hkN) hi).1
  show W p (gl G) e R s mid args below meth c H locs nc ns _ (F0 mid pc lsM (cr G x :: st.map (cv G)))
  rw [cr_lt hx]
  exact W.getf X.1.1 X.1.2.1 X.1.2.2.2.2.2.1 (hts _ hlk rfl) hi hst q1 (by rw [q3]; intro q; cases q) (by rw [hsl]; exact q4 k hkN) rfl rfl hd (h p e R s mid args below meth c H locs lsM X)
theorem WR.upd {x : Nat} {H H' : Heap} (h : WR G M H) (hnx : nx M' = nx M) (hne : ∀ c t k, c ≠ x → fv M' c t k = fv M c t k) (hsz : H'.size = H.size) (ho : ∀ q, q ≠ gbase G + x → H'[q]? = H[q]?) (hc : cellAt G M' x H') : WR G M' H' := by
  refine ⟨by rw [hsz, hnx]; exact h.1, by rw [hnx]; exact h.2.1, fun c hcn => ?_⟩
  rw [hnx] at hcn
  by_cases hcx : c = x
  · subst hcx; exact hc
  · have h1 := h.2.2 c hcn
    refine ⟨fun ci q hk hq => ?_, fun a b => ?_⟩
    · have h2 := h1.1 ci q hk hq
      refine (h2.kept (ho _ (by omega))).to (fun k _ => ?_)
      rw [hne c _ k hcx]
    · rw [ho _ (by omega), h1.2 a b]
      congr 1
      congr 1
      funext j
      rw [hne c _ j hcx]
theorem fv_sI_ne {x k : Nat} {v : Int32} : ∀ c t j, c ≠ x → fv (sI M x k v) c t j = fv M c t j := by
  intro c t j h
  have e : gI (sI M x k v) c j = gI M c j := by simp [gI, sI, h]
  unfold fv
  split <;> first | rw [e] | rfl
theorem fv_sL_ne {x k : Nat} {v : Int64} : ∀ c t j, c ≠ x → fv (sL M x k v) c t j = fv M c t j := by
  intro c t j h
  have e : gL (sL M x k v) c j = gL M c j := by simp [gL, sL, h]
  unfold fv
  split <;> first | rw [e] | rfl
theorem fv_sR_ne {x k v : Nat} : ∀ c t j, c ≠ x → fv (sR M x k v) c t j = fv M c t j := by
  intro c t j h
  have e : gR (sR M x k v) c j = gR M c j := by simp [gR, sR, h]
  unfold fv
  split <;> first | rw [e] | rfl
theorem fv_sI {x k t : Nat} {v : Int32} (ht : t = 0 ∨ t = 3) (t' : Nat) (j : Nat) (hj : j = k → t' = t) : fv (sI M x k v) x t' j = if j = k then .int v else fv M x t' j := by
  by_cases h : j = k
  · rw [if_pos h, hj h, h]
    rcases ht with rfl | rfl <;> simp [fv, gI, sI]
  · rw [if_neg h]
    have e : gI (sI M x k v) x j = gI M x j := by simp [gI, sI, h]
    unfold fv
    split <;> first | rw [e] | rfl
theorem fv_sL {x k : Nat} {v : Int64} (t' : Nat) (j : Nat) (hj : j = k → t' = 1) : fv (sL M x k v) x t' j = if j = k then .long v else fv M x t' j := by
  by_cases h : j = k
  · rw [if_pos h, hj h, h]
    simp [fv, gL, sL]
  · rw [if_neg h]
    have e : gL (sL M x k v) x j = gL M x j := by simp [gL, sL, h]
    unfold fv
    split <;> first | rw [e] | rfl
theorem fv_sR {x k v : Nat} (t' : Nat) (j : Nat) (hj : j = k → t' = 2) : fv (sR M x k v) x t' j = if j = k then .ref v else fv M x t' j := by
  by_cases h : j = k
  · rw [if_pos h, hj h, h]
    simp [fv, gR, sR]
  · rw [if_neg h]
    have e : gR (sR M x k v) x j = gR M x j := by simp [gR, sR, h]
    unfold fv
    split <;> first | rw [e] | rfl
def FPut (own : String) (mname : String) (idx ci k : Nat) : Prop := ∃ q, vwCl[ci]? = some q ∧ k < q.2.2 ∧ Cond.fieldLink own idx (q.2.1 k).1 (q.2.1 k).2.1 (q.2.1 k).2.2.1 ∈ lw_tbl ∧ ((q.2.1 k).2.2.2 = false ∨ ((q.2.1 k).2.2.2 = true ∧ mname = "<init>" ∧ (q.2.1 k).1 = own))
/-- a field is written: M' is M but for field k of cell x, which is v now -/
theorem P_putf {idx ci k x : Nat} {v : Value} (hd : decode (mC m) pc = .ok (.putfield idx, 3)) (hF : FPut (mN m).cls (mN m).name idx ci k) (hk : kd0 x = ci + 1) (hn : x < nx M) (hnx : nx M' = nx M) (hne : ∀ c t k, c ≠ x → fv M' c t k = fv M c t k) (hv : ∀ j, fv M' x (fcode (tyOf ci j)) j = if j = k then v else fv M x (fcode (tyOf ci j)) j) (hfit : ∀ s, SW G s → narrow (tyOf ci k) (cv G v) = cv G v ∧ fits (tyOf ci k) (cv G v) = true) (h : PW G d m (pc + 3) ls st M' nc ns Q) : PW G d m pc ls (v :: .ref x :: st) M nc ns Q := by
  intro p e R s mid args below meth c H locs lsM X
  obtain ⟨q, hq, hkN, hlk, hfin⟩ := hF
  have hx : x < 999 := kd_lt hk (by have := cl_lt ci q hq; omega)
  obtain ⟨cell, q1, q2, q3, q4⟩ := (X.2.2.1.2.2 x hn).1 ci q hk hq
  have hts := X.1.2.2.2.2.2.2.1
  have hs := X.1.2.2.2.2.2.2.2.2
  obtain ⟨hS, hfc, kC, hkC, hkind⟩ := hs.1 ci q hq
  obtain ⟨cf, kf, fi, f, hi, hsl⟩ := hS k hkN
  have hlay := gw_of hts _ (cl_gw hq _ (u_in_lay hkN))
  have hst := (u_facts hfc hkC (u_lays (gw_of hts) (cl_gw hq) hkN) hi).1
  obtain ⟨hnar, hft⟩ := hfit s hs
  show W p (gl G) e R s mid args below meth c H locs nc ns _ (F0 mid pc lsM (cv G v :: cr G x :: st.map (cv G)))
  rw [cr_lt hx]
  have fin : ∀ H' : Heap, H'[gbase G + x]? = some (cell.setSlot (gdI G ci k) (cv G v)) → H'.size = H.size → (∀ q, q ≠ gbase G + x → H'[q]? = H[q]?) → W p (gl G) e R s mid args below meth c H' (locs ++ [⟨gbase G + x, gdI G ci k⟩]) nc ns (MQ below (QC G Q) args s (mcT m) (msT m) (gA G)) (F0 mid (pc + 3) lsM (st.map (cv G))) := by
    intro H' e1 e2 e3
    refine h p e R s mid args below meth c H' _ lsM ⟨X.1, X.2.1, X.2.2.1.upd hnx hne e2 e3 ⟨fun ci' q' hk' hq' => ?_, fun a b => ?_⟩, X.2.2.2.1.put e2 e3 (Nat.le_add_right _ _), X.2.2.2.2⟩
    · have hci : ci' = ci := by omega
      subst hci
      cases hq.symm.trans hq'
      refine t_OB.to (V := updV (fun k => cv G (fv M x (fcode (tyOf ci' k)) k)) k (cv G v)) ⟨_, e1, q2, q3, t_set q4 (cl_ap hts hs hq) hkN _⟩ (fun j _ => ?_)
      rw [hv j]
      unfold updV
      split <;> rfl
    · have := cl_lt ci q hq
      omega
  rcases hfin with hfin | ⟨hfin, hin2, hdecl⟩
  · unfold u_lay at hlay
    rw [if_neg (by rw [hfin]; decide)] at hlay
    have h6 := u_store hfc hkC hkind hlay hi (cl_ty ci q hq k hkN) hnar hft
    refine W.putK X.1.1 X.1.2.1 (f := f) ⟨X.1.2.2.2.2.2.1, hts _ hlk rfl, ⟨_, _, _, hi⟩, hst⟩ (by rw [q2]; exact h6) q1 q3 (by rw [hsl]; exact k2_hasslot (q4 k hkN)) rfl rfl hd fun H' e1 e2 e3 => ?_
    rw [hsl] at e1 ⊢
    exact fin H' e1 e2 e3
  · unfold u_lay at hlay
    rw [if_pos hfin] at hlay
    have hcf : mid.cls = cf := by
      obtain ⟨_, _, c', _, _, _, -, -, hf', -, -, -, hown2, -⟩ := Cond.laysFinal_spec hlay
      have e1 : c' = cf := by have := hi.symm.trans hf'; simp at this; exact this.1.symm
      rw [hdecl] at hown2
      rw [← e1]; exact Option.some.inj (X.1.2.2.2.2.2.1.symm.trans hown2)
    have h6 := u_fits hfc hkC hkind (Or.inr hlay) hi (cl_ty ci q hq k hkN) hnar hft
    refine W.putFinK X.1.1 X.1.2.1 X.1.2.2.2.2.2.1 (hts _ hlk rfl) hi hst hcf (X.1.2.2.2.2.2.2.2.1.trans hin2) (by rw [q2]; exact h6) q1 q3 (by rw [hsl]; exact k2_hasslot (q4 k hkN)) rfl rfl hd fun H' e1 e2 e3 => ?_
    rw [hsl] at e1 ⊢
    exact fin H' e1 e2 e3
end MEMO
