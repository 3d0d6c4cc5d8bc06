/-! THE ABSTRACT MACHINE: memory as numbers, cells by their order of making; 'PW' is the kit's W with all that is fixed put away. -/
abbrev AM : Type := (Nat → Nat → Int32) × (Nat → Nat → Int64) × (Nat → Nat → Nat) × Nat
def gI (M : AM) (c k : Nat) : Int32 := M.1 c k
def gL (M : AM) (c k : Nat) : Int64 := M.2.1 c k
def gR (M : AM) (c k : Nat) : Nat := M.2.2.1 c k
def nx (M : AM) : Nat := M.2.2.2
def sI (M : AM) (c k : Nat) (v : Int32) : AM := (fun a b => if a = c ∧ b = k then v else M.1 a b, M.2.1, M.2.2.1, M.2.2.2)
def sL (M : AM) (c k : Nat) (v : Int64) : AM := (M.1, fun a b => if a = c ∧ b = k then v else M.2.1 a b, M.2.2.1, M.2.2.2)
def sR (M : AM) (c k : Nat) (v : Nat) : AM := (M.1, M.2.1, fun a b => if a = c ∧ b = k then v else M.2.2.1 a b, M.2.2.2)
def sN (M : AM) : AM := (fun a b => if a = M.2.2.2 then 0 else M.1 a b, fun a b => if a = M.2.2.2 then 0 else M.2.1 a b, fun a b => if a = M.2.2.2 then 999 else M.2.2.1 a b, M.2.2.2 + 1)
def kd0 (c : Nat) : Nat := if c < 999 then (shp.getD c (0, 0)).1 else if c = 1000 then 40 else if c = 1001 ∨ c = 1002 then 41 else if c = 1003 ∨ c = 1004 then 42 else 0
def ln0 (c : Nat) : Nat := (shp.getD c (0, 0)).2
def fcode : FieldType → Nat
  | .int => 0
  | .long => 1
  | .object _ => 2
  | .array _ => 2
  | .boolean => 3
  | _ => 9
def fv (M : AM) (c t k : Nat) : Value := match t with
  | 0 => .int (gI M c k)
  | 1 => .long (gL M c k)
  | 2 => .ref (gR M c k)
  | _ => .int (gI M c k)
def acode (k : Nat) : Nat := if k = 21 then 1 else if k = 24 then 2 else 0
def aty (k : Nat) : FieldType := if k = 20 then .int else if k = 21 then .long else if k = 22 then .byte else if k = 23 then .boolean else .object "CordLoft$State"
/-- what is fixed in a run of the law: launch, class numbers, slots, array classes, the heap's size at the law's entry, the script's cell and length, its ints, the two texts' cells and byte rows, the formatter -/
abbrev GT : Type := Launch × (Nat → ClassId) × (Nat → Nat → Nat) × (Nat → ClassId) × Nat × Nat × Nat × (Nat → Int32) × (Nat → Nat) × (Nat → Nat) × Value
def gl (G : GT) : Launch := G.1
def gdC (G : GT) : Nat → ClassId := G.2.1
def gdI (G : GT) : Nat → Nat → Nat := G.2.2.1
def gdA (G : GT) : Nat → ClassId := G.2.2.2.1
def gbase (G : GT) : Nat := G.2.2.2.2.1
def gb (G : GT) : Nat := G.2.2.2.2.2.1
def gLn (G : GT) : Nat := G.2.2.2.2.2.2.1
def gxs (G : GT) : Nat → Int32 := G.2.2.2.2.2.2.2.1
def gaK (G : GT) : Nat → Nat := G.2.2.2.2.2.2.2.2.1
def gaV (G : GT) : Nat → Nat := G.2.2.2.2.2.2.2.2.2.1
def gfz (G : GT) : Value := G.2.2.2.2.2.2.2.2.2.2
def gA (G : GT) : Nat → Prop := fun q => gbase G ≤ q
def cr (G : GT) (c : Nat) : Value := if c < 999 then .ref (gbase G + c) else if c = 999 then .null else if c = 1000 then .ref (gb G) else if c = 1001 then .ref (gaK G 0) else if c = 1002 then .ref (gaK G 1) else if c = 1003 then .ref (gaV G 0) else if c = 1004 then .ref (gaV G 1) else gfz G
def cv (G : GT) (v : Value) : Value := match v with
  | .ref c => cr G c
  | v => v
abbrev ux : Value := .retAddr 0
def stxt0 : String := "lamp    cord    next    dusk    least   gusts   draw    turns   costs   or      and     not     lit     near    cords   number  watts   night   "
def stxt1 : String := ";()<>=+-*/%"
def sbyt0 : List Int32 := stxt0.toList.map (fun c => Int32.ofNat c.toNat)
def sbyt1 : List Int32 := stxt1.toList.map (fun c => Int32.ofNat c.toNat)
def sbyt (i : Nat) : List Int32 := if i = 0 then sbyt0 else sbyt1
def nestW : List Cond := tables_1.filter (fun w => match w with | .methodLinkNest .. => true | _ => false)
/-- what holds of a frame's first state, and of every later one's -/
def SW (G : GT) (s : State) : Prop :=
  (∀ (ci : Nat) (q : vw_C), vwCl[ci]? = some q → u_Kn s q.1 q.2.1 q.2.2 (gdC G ci) (gdI G ci)) ∧
  (∀ k, 20 ≤ k → k ≤ 24 → ArrOfT s (gdA G k) (aty k) ∧ va_RA s (gdA G k) (aty k)) ∧
  va_AO "CordLoft$State" s ∧
  (∀ a i x h, Cond.methodLinkNest a i x h ∈ lw_tbl → va_Nw (.methodLinkNest a i x h) s) ∧
  gbase G ≤ s.heap.size ∧ gb G < gbase G ∧ va_X (gb G) (gLn G) (gxs G) s s.heap ∧
  vk_R "CordLoft$Tokens" 85 stxt0 (gaK G 0) s ∧ vk_R "CordLoft$Tokens" 72 stxt1 (gaK G 1) s ∧
  vk_S 2 [144, 11] [sbyt0, sbyt1] (gaK G) (gaV G) (gA G) s s.heap ∧
  va_Z "java/lang/String" "COMPACT_STRINGS" "Z" (.int 1) (gA G) s s.heap ∧
  va_Z "jdk/internal/util/Preconditions" "SIOOBE_FORMATTER" "Ljava/util/function/BiFunction;" (gfz G) (gA G) s s.heap ∧ (gfz G = .null ∨ ∃ a, gfz G = .ref a)
def cellAt (G : GT) (M : AM) (c : Nat) (H : Heap) : Prop :=
  (∀ ci q, kd0 c = ci + 1 → vwCl[ci]? = some q → t_OB (gbase G + c) (gdC G ci) q.2.2 (gdI G ci) H (fun k => cv G (fv M c (fcode (tyOf ci k)) k))) ∧
  (20 ≤ kd0 c → kd0 c ≤ 24 → H[gbase G + c]? = some (arrV (gdA G (kd0 c)) (ln0 c) (fun j => cv G (fv M c (acode (kd0 c)) j))))
def WR (G : GT) (M : AM) (H : Heap) : Prop := H.size = gbase G + nx M ∧ nx M ≤ 138 ∧ ∀ c, c < nx M → cellAt G M c H
def LV (G : GT) (lsM : Array Slot) (nL : Nat) (ls : List Value) : Prop := lsM.size = nL ∧ lv_wf lsM ∧ ls.length = nL ∧ ∀ (i : Nat) (v : Value), ls[i]? = some v → v ≠ ux → lsM[i]? = some (Slot.val (cv G v))
def Cx (G : GT) (m : Nat) (p : Program) (s : State) (mid : MethodId) (args : Array Value) (meth : Method) (c : Code) : Prop :=
  p.tables.exec = Jvm.exec ∧ c.code = mC m ∧ c.maxLocals = mL m ∧ meth.sig.returnType = mR m ∧ meth.locks = false ∧ s.vm.findClass (mN m).cls = some mid.cls ∧ (∀ w ∈ lw_tbl, goodWord w = true → w.before args s = true) ∧ meth.name = (mN m).name ∧ SW G s
def QC (G : GT) (Q : AM → Option Value → Prop) : Array Value → State → Outcome → State → Prop := fun _ st oc t => (∃ M r, Q M r ∧ oc = .returned (r.map (cv G)) ∧ WR G M t.heap) ∧ va_F (gA G) st t
def FS (G : GT) (d m : Nat) (ls : List Value) (M : AM) (p : Program) (R : Room) (s : State) (mid : MethodId) (args : Array Value) (meth : Method) (c : Code) (H : Heap) (locs : List Loc) (lsM : Array Slot) : Prop :=
  Cx G m p s mid args meth c ∧ (d ≤ R.frames ∧ 60 * d ≤ R.locals ∧ R.cells = mcT m ∧ R.slots = msT m) ∧ WR G M H ∧ va_S (gA G) s.heap H locs ∧ LV G lsM (mL m) ls
def PW (G : GT) (d m pc : Nat) (ls st : List Value) (M : AM) (nc ns : Nat) (Q : AM → Option Value → Prop) : Prop :=
  ∀ p e R s mid args below meth c H locs lsM, FS G d m ls M p R s mid args meth c H locs lsM →
    W p (gl G) e R s mid args below meth c H locs nc ns (MQ below (QC G Q) args s (mcT m) (msT m) (gA G)) (F0 mid pc lsM (st.map (cv G)))
section RULES
variable {G : GT} {d m pc : Nat} {ls st : List Value} {M : AM} {nc ns : Nat} {Q : AM → Option Value → Prop}
theorem P_iconst {n : Int} {v : Int32} (hd : decode (mC m) pc = .ok (.iconst n, 1)) (hv : Int32.ofInt n = v) (h : PW G d m (pc + 1) ls (.int v :: st) M nc ns Q) : PW G d m pc ls st M nc ns Q :=
  fun p e R s mid args below meth c H locs lsM X => lv_iconst X.1.1 X.1.2.1 hd hv (h p e R s mid args below meth c H locs lsM X)
theorem P_bipush {n : Int} {v : Int32} (hd : decode (mC m) pc = .ok (.bipush n, 2)) (hv : (Int8.ofInt n).toInt32 = v) (h : PW G d m (pc + 2) ls (.int v :: st) M nc ns Q) : PW G d m pc ls st M nc ns Q :=
  fun p e R s mid args below meth c H locs lsM X => lv_bipush X.1.1 X.1.2.1 hd hv (h p e R s mid args below meth c H locs lsM X)
theorem P_sipush {n : Int} {v : Int32} (hd : decode (mC m) pc = .ok (.sipush n, 3)) (hv : (Int16.ofInt n).toInt32 = v) (h : PW G d m (pc + 3) ls (.int v :: st) M nc ns Q) : PW G d m pc ls st M nc ns Q :=
  fun p e R s mid args below meth c H locs lsM X => lv_sipush X.1.1 X.1.2.1 hd hv (h p e R s mid args below meth c H locs lsM X)
theorem P_lconst {n : Fin 2} {v : Int64} (hd : decode (mC m) pc = .ok (.lconst n, 1)) (hv : Int64.ofNat (n : Nat) = v) (h : PW G d m (pc + 1) ls (.long v :: st) M nc ns Q) : PW G d m pc ls st M nc ns Q :=
  fun p e R s mid args below meth c H locs lsM X => lv_lconst X.1.1 X.1.2.1 hd hv (h p e R s mid args below meth c H locs lsM X)
theorem P_ldc {idx : Nat} {v : Int32} (hd : decode (mC m) pc = .ok (.ldc idx, 2)) (hw : Cond.constant (mN m).cls idx v ∈ lw_tbl) (h : PW G d m (pc + 2) ls (.int v :: st) M nc ns Q) : PW G d m pc ls st M nc ns Q :=
  fun p e R s mid args below meth c H locs lsM X => lv_ldc X.1.1 X.1.2.1 X.1.2.2.2.2.2.1 (X.1.2.2.2.2.2.2.1 _ hw rfl) hd (h p e R s mid args below meth c H locs lsM X)
theorem P_ldcw {idx : Nat} {v : Int32} (hd : decode (mC m) pc = .ok (.ldc_w idx, 3)) (hw : Cond.constant (mN m).cls idx v ∈ lw_tbl) (h : PW G d m (pc + 3) ls (.int v :: st) M nc ns Q) : PW G d m pc ls st M nc ns Q :=
  fun p e R s mid args below meth c H locs lsM X => lv_ldcw X.1.1 X.1.2.1 X.1.2.2.2.2.2.1 (X.1.2.2.2.2.2.2.1 _ hw rfl) hd (h p e R s mid args below meth c H locs lsM X)
theorem P_ldc2 {idx : Nat} {v : Int64} (hd : decode (mC m) pc = .ok (.ldc2_w idx, 3)) (hw : Cond.constantLong (mN m).cls idx v ∈ lw_tbl) (h : PW G d m (pc + 3) ls (.long v :: st) M nc ns Q) : PW G d m pc ls st M nc ns Q :=
  fun p e R s mid args below meth c H locs lsM X => lv_ldc2 X.1.1 X.1.2.1 X.1.2.2.2.2.2.1 (X.1.2.2.2.2.2.2.1 _ hw rfl) hd (h p e R s mid args below meth c H locs lsM X)
theorem P_iload_n {k : Fin 4} {x : Int32} (hd : decode (mC m) pc = .ok (.iload_n k, 1)) (hl : ls[(k : Nat)]? = some (.int x)) (h : PW G d m (pc + 1) ls (.int x :: st) M nc ns Q) : PW G d m pc ls st M nc ns Q :=
  fun p e R s mid args below meth c H locs lsM X => lv_iload_n X.1.1 X.1.2.1 hd rfl (X.2.2.2.2.2.2.2 _ _ hl (by intro q; cases q)) (h p e R s mid args below meth c H locs lsM X)
theorem P_iload {k : Nat} {x : Int32} (hd : decode (mC m) pc = .ok (.iload k, 2)) (hl : ls[k]? = some (.int x)) (h : PW G d m (pc + 2) ls (.int x :: st) M nc ns Q) : PW G d m pc ls st M nc ns Q :=
  fun p e R s mid args below meth c H locs lsM X => lv_iload X.1.1 X.1.2.1 hd (X.2.2.2.2.2.2.2 _ _ hl (by intro q; cases q)) (h p e R s mid args below meth c H locs lsM X)
theorem P_lload_n {k : Fin 4} {x : Int64} (hd : decode (mC m) pc = .ok (.lload_n k, 1)) (hl : ls[(k : Nat)]? = some (.long x)) (h : PW G d m (pc + 1) ls (.long x :: st) M nc ns Q) : PW G d m pc ls st M nc ns Q :=
  fun p e R s mid args below meth c H locs lsM X => lv_lload_n X.1.1 X.1.2.1 hd rfl (X.2.2.2.2.2.2.2 _ _ hl (by intro q; cases q)) (h p e R s mid args below meth c H locs lsM X)
theorem P_lload {k : Nat} {x : Int64} (hd : decode (mC m) pc = .ok (.lload k, 2)) (hl : ls[k]? = some (.long x)) (h : PW G d m (pc + 2) ls (.long x :: st) M nc ns Q) : PW G d m pc ls st M nc ns Q :=
  fun p e R s mid args below meth c H locs lsM X => lv_lload X.1.1 X.1.2.1 hd (X.2.2.2.2.2.2.2 _ _ hl (by intro q; cases q)) (h p e R s mid args below meth c H locs lsM X)
theorem cr_case {s : State} (h : SW G s) (c : Nat) : cr G c = .null ∨ ∃ a, cr G c = .ref a := by
  unfold cr
  have hz := h.2.2.2.2.2.2.2.2.2.2.2.2
  repeat' split
  all_goals first | exact Or.inr ⟨_, rfl⟩ | exact Or.inl rfl | exact hz
theorem P_aload_n {k : Fin 4} {x : Nat} (hd : decode (mC m) pc = .ok (.aload_n k, 1)) (hl : ls[(k : Nat)]? = some (.ref x)) (h : PW G d m (pc + 1) ls (.ref x :: st) M nc ns Q) : PW G d m pc ls st M nc ns Q := by
  intro p e R s mid args below meth c H locs lsM X
  have h1 := X.2.2.2.2.2.2.2 _ _ hl (by intro q; cases q)
  have h2 := h p e R s mid args below meth c H locs lsM X
  rcases cr_case X.1.2.2.2.2.2.2.2.2 x with hc | ⟨a, hc⟩
  · exact lv_aload_nN X.1.1 X.1.2.1 hd rfl (by rw [h1]; show some (Slot.val (cr G x)) = _; rw [hc]) (by have : List.map (cv G) (Value.ref x :: st) = .null :: st.map (cv G) := by rw [← hc]; rfl
                                                                                                        rw [this] at h2; exact h2)
  · exact lv_aload_n X.1.1 X.1.2.1 hd rfl (x := a) (by rw [h1]; show some (Slot.val (cr G x)) = _; rw [hc]) (by have : List.map (cv G) (Value.ref x :: st) = .ref a :: st.map (cv G) := by rw [← hc]; rfl
                                                                                                                rw [this] at h2; exact h2)
theorem P_aload {k : Nat} {x : Nat} (hd : decode (mC m) pc = .ok (.aload k, 2)) (hl : ls[k]? = some (.ref x)) (h : PW G d m (pc + 2) ls (.ref x :: st) M nc ns Q) : PW G d m pc ls st M nc ns Q := by
  intro p e R s mid args below meth c H locs lsM X
  have h1 := X.2.2.2.2.2.2.2 _ _ hl (by intro q; cases q)
  have h2 := h p e R s mid args below meth c H locs lsM X
  rcases cr_case X.1.2.2.2.2.2.2.2.2 x with hc | ⟨a, hc⟩
  · exact lv_aloadN X.1.1 X.1.2.1 hd (by rw [h1]; show some (Slot.val (cr G x)) = _; rw [hc]) (by have : List.map (cv G) (Value.ref x :: st) = .null :: st.map (cv G) := by rw [← hc]; rfl
                                                                                                  rw [this] at h2; exact h2)
  · exact lv_aload X.1.1 X.1.2.1 hd (x := a) (by rw [h1]; show some (Slot.val (cr G x)) = _; rw [hc]) (by have : List.map (cv G) (Value.ref x :: st) = .ref a :: st.map (cv G) := by rw [← hc]; rfl
                                                                                                          rw [this] at h2; exact h2)
end RULES
